/-! p44: islands lifted; seams; settling -/
/-- what is laid, but for what the cuts say -/
def flK (R C : Int) (ph : Nat → Int) (pe : Nat → Prop) (lad k : Int) (H F S V T : Nat → Int) : Prop := ((0 ≤ k ∧ k ≤ lad) ∧ sm (ind S) (R * C).toNat = lad) ∧ (∀ p : Nat, (p : Int) < R * C → S p ≠ -1 → flP R C ph pe lad k H F S V T p) ∧
  ∀ i : Nat, (i : Int) < k → ∃ s : Nat, T i = (s : Int) ∧ (s : Int) < R * C ∧ S s = (i : Int) ∧ F s = -1
theorem flK_laid {R C : Int} {ph : Nat → Int} {pe : Nat → Prop} {lad k : Int} {H F S V T : Nat → Int} (hn : 0 ≤ R * C) (h : flK R C ph pe lad k H F S V T) (hl : R * C ≤ lad) : ∀ p : Nat, (p : Int) < R * C → S p ≠ -1 := fun p hp hS => by
  have := ct_lt hS (R * C).toNat (by omega)
  have := h.1.2
  omega
theorem flK_pot {R C : Int} {ph : Nat → Int} {pe : Nat → Prop} {lad k : Int} {H F S V T P : Nat → Int} (hC : 0 < C) (h : flK R C ph pe lad k H F S V T) (hP : ∀ e : Nat, edP R C e → pe e → P (tipI C e).toNat - P ((e : Int) / 2).toNat = stA ph ((e : Int) / 2).toNat (tipI C e).toNat) : ∀ p : Nat, (p : Int) < R * C → S p ≠ -1 → H p = P p + (H (T (S p).toNat).toNat - P (T (S p).toNat).toNat) := by
  have key : ∀ n : Nat, ∀ p : Nat, (p : Int) < R * C → S p ≠ -1 → V p ≤ (n : Int) → H p = P p + (H (T (S p).toNat).toNat - P (T (S p).toNat).toNat) := by
    intro n
    induction n with
    | zero =>
      intro p h1 h2 h3
      have := (h.2.1 p h1 h2).2.1
      omega
    | succ n ih =>
      intro p h1 h2 h3
      obtain ⟨-, -, -, l4⟩ := h.2.1 p h1 h2
      rcases l4 with ⟨l4, l5⟩ | ⟨-, q, l5, l6, l7, l8, l9⟩
      · rw [l5, show ((p : Int)).toNat = p by omega]
        omega
      · have := ih q (lk_lt hC l6).1 (by rw [l7]; exact h2) (by omega)
        rw [l7] at this
        obtain ⟨e, e1, e2, e3⟩ := l6
        have hp := hP e e1 e2
        rcases e3 with ⟨e3, e4⟩ | ⟨e3, e4⟩
        · rw [← e3, ← e4, show ((p : Int)).toNat = p by omega, show ((q : Int)).toNat = q by omega] at hp
          omega
        · rw [← e3, ← e4, show ((p : Int)).toNat = p by omega, show ((q : Int)).toNat = q by omega, stA_neg] at hp
          omega
  exact fun p h1 h2 => key (V p).toNat p h1 h2 (by have := (h.2.1 p h1 h2).2.1; omega)
theorem flK_lift {R C : Int} {ph : Nat → Int} {pe : Nat → Prop} {lad k : Int} {H H2 F S V T m : Nat → Int} (hC : 0 < C) (h : flK R C ph pe lad k H F S V T) (h2 : ∀ p : Nat, (p : Int) < R * C → S p ≠ -1 → H2 p = H p + 255 * m (S p).toNat) : flK R C ph pe lad k H2 F S V T := by
  obtain ⟨a, b, c⟩ := h
  refine ⟨a, fun p hp hS => ?_, c⟩
  obtain ⟨l1, l2, ⟨t, l3⟩, l4⟩ := b p hp hS
  refine ⟨l1, l2, ⟨t + m (S p).toNat, by rw [h2 p hp hS, l3]; omega⟩, l4.imp id fun ⟨z, q, q1, q2, q3, q4, q5⟩ => ⟨z, q, q1, q2, q3, q4, ?_⟩⟩
  rw [h2 p hp hS, h2 q (lk_lt hC q2).1 (by rw [q3]; exact hS), q3]
  omega
/-- of the cuts, and of the heights -/
theorem flJ_K {R C : Int} {ph : Nat → Int} {pe : Nat → Prop} {lad k : Int} {H F S V T : Nat → Int} (h : flJ R C ph pe lad k H F S V T) : flK R C ph (fun _ => True) lad k H F S V T := by
  obtain ⟨a, b, c, -⟩ := h
  refine ⟨a, fun p hp hS => ?_, c⟩
  obtain ⟨l1, l2, l3, l4⟩ := b p hp hS
  exact ⟨l1, l2, l3, l4.imp id fun ⟨z, q, q1, q2, q3⟩ => ⟨z, q, q1, lk_imp (fun _ _ _ => trivial) q2, q3⟩⟩
/-- but for the heights -/
def flA (R C : Int) (pe : Nat → Prop) (lad k : Int) (F S V T : Nat → Int) : Prop := ((0 ≤ k ∧ k ≤ lad) ∧ sm (ind S) (R * C).toNat = lad) ∧
  (∀ p : Nat, (p : Int) < R * C → S p ≠ -1 → (0 ≤ S p ∧ S p < k) ∧ (1 ≤ V p ∧ V p ≤ lad) ∧ ((F p = -1 ∧ T (S p).toNat = (p : Int)) ∨ (T (S p).toNat ≠ (p : Int) ∧ ∃ q : Nat, F p = (q : Int) ∧ lk R C pe q p ∧ S q = S p ∧ V q < V p))) ∧
  (∀ i : Nat, (i : Int) < k → ∃ s : Nat, T i = (s : Int) ∧ (s : Int) < R * C ∧ S s = (i : Int) ∧ F s = -1) ∧
  ∀ p q : Nat, lk R C pe p q → S p ≠ -1 → (S q ≠ -1 → S q = S p) ∧ (S q = -1 → S p = k - 1)
theorem flJ_A {R C : Int} {ph : Nat → Int} {pe : Nat → Prop} {lad k : Int} {H F S V T : Nat → Int} (h : flJ R C ph pe lad k H F S V T) : flA R C pe lad k F S V T := by
  obtain ⟨a, b, c, d⟩ := h
  refine ⟨a, fun p hp hS => ?_, c, d⟩
  obtain ⟨l1, l2, -, l4⟩ := b p hp hS
  exact ⟨l1, l2, l4.imp id fun ⟨z, q, q1, q2, q3, q4, _⟩ => ⟨z, q, q1, q2, q3, q4⟩⟩
theorem flJ_AK {R C : Int} {ph : Nat → Int} {pe : Nat → Prop} {lad k : Int} {H F S V T : Nat → Int} (h : flA R C pe lad k F S V T) (h2 : flK R C ph (fun _ => True) lad k H F S V T) : flJ R C ph pe lad k H F S V T := by
  obtain ⟨a, b, c, d⟩ := h
  refine ⟨a, fun p hp hS => ?_, c, d⟩
  obtain ⟨l1, l2, l4⟩ := b p hp hS
  obtain ⟨-, -, m3, m4⟩ := h2.2.1 p hp hS
  refine ⟨l1, l2, m3, ?_⟩
  rcases l4 with l4 | ⟨z, q, q1, q2, q3, q4⟩
  · exact Or.inl l4
  · rcases m4 with ⟨m4, -⟩ | ⟨-, q0, r1, -, -, -, r5⟩
    · omega
    · have : q0 = q := by omega
      subst this
      exact Or.inr ⟨z, q0, q1, q2, q3, q4, r5⟩
/-- whole islands lifted by whole turns -/
theorem flJ_lift {R C : Int} {ph : Nat → Int} {pe : Nat → Prop} {lad k : Int} {H H2 F S V T m : Nat → Int} (hC : 0 < C) (h : flJ R C ph pe lad k H F S V T) (h2 : ∀ p : Nat, (p : Int) < R * C → S p ≠ -1 → H2 p = H p + 255 * m (S p).toNat) : flJ R C ph pe lad k H2 F S V T := by
  obtain ⟨a, b, c, d⟩ := h
  refine ⟨a, fun p hp hS => ?_, c, d⟩
  obtain ⟨l1, l2, ⟨t, l3⟩, l4⟩ := b p hp hS
  refine ⟨l1, l2, ⟨t + m (S p).toNat, by rw [h2 p hp hS, l3]; omega⟩, l4.imp id fun ⟨z, q, q1, q2, q3, q4, q5⟩ => ⟨z, q, q1, q2, q3, q4, ?_⟩⟩
  rw [h2 p hp hS, h2 q (lk_lt hC q2).1 (by rw [q3]; exact hS), q3]
  omega
theorem flJ_c {R C : Int} {ph : Nat → Int} {pe : Nat → Prop} {lad k : Int} {H H2 F S V T : Nat → Int} (hC : 0 < C) (h : flJ R C ph pe lad k H F S V T) (h2 : ∀ p : Nat, (p : Int) < R * C → H2 p = H p) : flJ R C ph pe lad k H2 F S V T :=
  flJ_lift (m := fun _ => 0) hC h fun p hp _ => by rw [h2 p hp]; show H p = H p + 255 * 0; omega
def prE (x y : Int) : Int := if x < y then 144 * x + y else 144 * y + x
/-- an entry: a pair of islands, and the turns that one edge between them lacks -/
def enQ (R C : Int) (ph H S : Nat → Int) (pr tu : Int) : Prop := ∃ a b : Nat, lk R C (fun _ => True) a b ∧ (0 ≤ S a ∧ S a < S b ∧ S b < 144) ∧ pr = 144 * S a + S b ∧ 255 * tu = stA ph a b - (H b - H a)
def coQ (R C : Int) (S : Nat → Int) (e0 : Int) (sp : Nat → Int) (cnt : Int) : Prop := ∀ e : Nat, (e : Int) < e0 → edP R C e → S ((e : Int) / 2).toNat ≠ -1 → S (tipI C e).toNat ≠ -1 → S ((e : Int) / 2).toNat ≠ S (tipI C e).toNat → ∃ s : Nat, (s : Int) < cnt ∧ sp s = prE (S ((e : Int) / 2).toNat) (S (tipI C e).toNat)
/-- entries of all seams ahead of the edge e -/
def seP (R C : Int) (ph H S sp st : Nat → Int) (cnt e : Int) : Prop := (0 ≤ cnt ∧ cnt ≤ e ∧ e ≤ 200) ∧ (∀ s : Nat, (s : Int) < cnt → enQ R C ph H S (sp s) (st s)) ∧ coQ R C S e sp cnt
/-- one place, n, of cnt + 1 is open -/
def seN (R C : Int) (ph H S sp st : Nat → Int) (cnt e n : Int) : Prop := ((0 ≤ n ∧ n ≤ cnt) ∧ cnt ≤ e ∧ e ≤ 200) ∧ (∀ s : Nat, (s : Int) ≤ cnt → (s : Int) ≠ n → enQ R C ph H S (sp s) (st s)) ∧
  ∀ e2 : Nat, (e2 : Int) < e → edP R C e2 → S ((e2 : Int) / 2).toNat ≠ -1 → S (tipI C e2).toNat ≠ -1 → S ((e2 : Int) / 2).toNat ≠ S (tipI C e2).toNat → ∃ s : Nat, ((s : Int) ≤ cnt ∧ (s : Int) ≠ n) ∧ sp s = prE (S ((e2 : Int) / 2).toNat) (S (tipI C e2).toNat)
section
variable {R C : Int} {ph H S sp st sp2 st2 : Nat → Int} {cnt e n : Int}
theorem seN_of (h : seP R C ph H S sp st cnt e) : seN R C ph H S sp st cnt e cnt := by
  obtain ⟨a, b, c⟩ := h
  refine ⟨⟨⟨a.1, Int.le_refl _⟩, a.2⟩, fun s h1 h2 => b s (by omega), fun e2 h1 h2 h3 h4 h5 => ?_⟩
  obtain ⟨s, s1, s2⟩ := c e2 h1 h2 h3 h4 h5
  exact ⟨s, ⟨by omega, by omega⟩, s2⟩
/-- what lies at the open place is of no account -/
theorem seN_c (h1 : ∀ s : Nat, (s : Int) ≠ n → sp2 s = sp s) (h2 : ∀ s : Nat, (s : Int) ≠ n → st2 s = st s) (h : seN R C ph H S sp st cnt e n) : seN R C ph H S sp2 st2 cnt e n := by
  obtain ⟨a, b, c⟩ := h
  refine ⟨a, fun s g1 g2 => by rw [h1 s g2, h2 s g2]; exact b s g1 g2, fun e2 g1 g2 g3 g4 g5 => ?_⟩
  obtain ⟨s, s1, s2⟩ := c e2 g1 g2 g3 g4 g5
  exact ⟨s, s1, by rw [h1 s s1.2]; exact s2⟩
theorem seN_dn (h : seN R C ph H S sp st cnt e n) (hn : 1 ≤ n) (h1 : sp n.toNat = sp (n - 1).toNat) (h2 : st n.toNat = st (n - 1).toNat) : seN R C ph H S sp st cnt e (n - 1) := by
  obtain ⟨a, b, c⟩ := h
  refine ⟨⟨⟨by omega, by omega⟩, a.2⟩, fun s g1 g2 => ?_, fun e2 g1 g2 g3 g4 g5 => ?_⟩
  · by_cases hs : (s : Int) = n
    · have : s = n.toNat := by omega
      rw [this, h1, h2]
      exact b (n - 1).toNat (by omega) (by omega)
    · exact b s g1 hs
  · obtain ⟨s, s1, s2⟩ := c e2 g1 g2 g3 g4 g5
    by_cases hs : (s : Int) = n - 1
    · refine ⟨n.toNat, ⟨by omega, by omega⟩, ?_⟩
      rw [h1, show (n - 1).toNat = s by omega]
      exact s2
    · exact ⟨s, ⟨s1.1, hs⟩, s2⟩
theorem seP_in {p t : Int} (h : seN R C ph H S sp st cnt e n) (he : e ≤ 199) (h1 : sp n.toNat = p) (h2 : st n.toNat = t) (hq : enQ R C ph H S p t) (hp : prE (S (e / 2).toNat) (S (tipI C e).toNat) = p) : seP R C ph H S sp st (cnt + 1) (e + 1) := by
  obtain ⟨a, b, c⟩ := h
  refine ⟨⟨by omega, by omega, by omega⟩, fun s g1 => ?_, fun e2 g1 g2 g3 g4 g5 => ?_⟩
  · by_cases hs : (s : Int) = n
    · have : s = n.toNat := by omega
      rw [this, h1, h2]
      exact hq
    · exact b s (by omega) hs
  · by_cases he2 : (e2 : Int) = e
    · exact ⟨n.toNat, by omega, by rw [h1, he2]; exact hp.symm⟩
    · obtain ⟨s, s1, s2⟩ := c e2 (by omega) g2 g3 g4 g5
      exact ⟨s, by omega, s2⟩
/-- an edge without a seam -/
theorem seP_no (h : seP R C ph H S sp st cnt e) (he : e ≤ 199) (h1 : S (e / 2).toNat = -1 ∨ S (tipI C e).toNat = -1 ∨ S (e / 2).toNat = S (tipI C e).toNat ∨ ¬ edP R C e) : seP R C ph H S sp st cnt (e + 1) := by
  obtain ⟨a, b, c⟩ := h
  refine ⟨⟨a.1, by omega, by omega⟩, b, fun e2 g1 g2 g3 g4 g5 => ?_⟩
  by_cases he2 : (e2 : Int) = e
  · rw [he2] at g2 g3 g4 g5
    rcases h1 with q | q | q | q
    · exact absurd q g3
    · exact absurd q g4
    · exact absurd q g5
    · exact absurd g2 q
  · exact c e2 (by omega) g2 g3 g4 g5
end
/-! settling -/
def gsI (k : Int) (sg : Nat → Int) (left : Int) : Prop := (∀ i : Nat, (i : Int) < k → ∃ j : Nat, sg i = (j : Int) ∧ (j : Int) < k ∧ sg j = (j : Int)) ∧ sm (fun i => if sg i = (i : Int) then 1 else 0) k.toNat = left
def spI (R C k : Int) (H S sg : Nat → Int) (K : Int) : Prop := ∃ s : Nat → Int, (∀ i, 0 ≤ s i) ∧ sm s k.toNat ≤ K ∧ ∀ p q : Nat, (p : Int) < R * C → (q : Int) < R * C → sg (S p).toNat = sg (S q).toNat → H p - H q ≤ s (sg (S p).toNat).toNat
def potP (R C : Int) (ph P : Nat → Int) : Prop := ∀ e : Nat, edP R C e → P (tipI C e).toNat - P ((e : Int) / 2).toNat = stA ph ((e : Int) / 2).toNat (tipI C e).toNat
def paI (R C : Int) (ph H S sg : Nat → Int) : Prop := ∀ P : Nat → Int, potP R C ph P → ∀ p q : Nat, (p : Int) < R * C → (q : Int) < R * C → sg (S p).toNat = sg (S q).toNat → H p - P p = H q - P q
def sI (R C : Int) (ph : Nat → Int) (lad k : Int) (H F S V T sg : Nat → Int) (left r : Int) : Prop := (flK R C ph (fun _ => True) lad k H F S V T ∧ lad = R * C) ∧ (gsI k sg left ∧ left + r = k + 1 ∧ 1 ≤ r) ∧ spI R C k H S sg (5760000 + 127 * r) ∧ (∀ p : Nat, (p : Int) < R * C → -(20000 + 6000000 * r) ≤ H p ∧ H p ≤ 20000 + 6000000 * r) ∧ paI R C ph H S sg
theorem sm_le {f : Nat → Int} (h : ∀ i, 0 ≤ f i) : ∀ (n i : Nat), i < n → f i ≤ sm f n
  | 0, i, hi => absurd hi (Nat.not_lt_zero i)
  | n + 1, i, hi => by
    show f i ≤ sm f n + f n
    have h0 : 0 ≤ sm f n := by
      clear hi
      induction n with
      | zero => exact Int.le_refl _
      | succ n ih =>
        have := h n
        show 0 ≤ sm f n + f n
        omega
    by_cases e : i < n
    · have := sm_le h n i e
      have := h n
      omega
    · have : i = n := by omega
      subst this
      omega
theorem sm_k (c : Int) : ∀ n : Nat, sm (fun _ => c) n = c * n
  | 0 => by show (0 : Int) = c * 0; omega
  | n + 1 => by
    show sm (fun _ => c) n + c = c * ((n + 1 : Nat) : Int)
    rw [sm_k c n, show ((n + 1 : Nat) : Int) = (n : Int) + 1 by omega, Int.mul_add, Int.mul_one]
section
variable {R C : Int} {ph : Nat → Int} {lad k left r : Int} {H H2 F S V T sg sg2 : Nat → Int}
/-- at the beginning each island is alone -/
theorem sI_0 (hC : 0 < C) (hn : R * C ≤ 144) (h0 : 0 ≤ R * C) (h : flK R C ph (fun _ => True) lad k H F S V T) (hl : lad = R * C) (hb : ∀ p : Nat, (p : Int) < R * C → -20000 ≤ H p ∧ H p ≤ 20000) (hg : ∀ i : Nat, (i : Int) < k → sg i = (i : Int)) : sI R C ph lad k H F S V T sg k 1 := by
  have hlaid := flK_laid h0 h (by omega)
  have hSk : ∀ p : Nat, (p : Int) < R * C → 0 ≤ S p ∧ S p < k := fun p hp => (h.2.1 p hp (hlaid p hp)).1
  have hkl := h.1.1
  refine ⟨⟨h, hl⟩, ⟨⟨fun i hi => ⟨i, hg i hi, hi, hg i hi⟩, ?_⟩, by omega, by omega⟩, ⟨fun _ => 40000, fun _ => (show (0 : Int) ≤ 40000 by decide), ?_, fun p q hp hq _ => ?_⟩, fun p hp => ?_, fun P hP p q hp hq hs => ?_⟩
  · rw [sm_e (h := fun _ => 1) k.toNat (fun i hi => if_pos (hg i (by omega))), sm_k]
    omega
  · rw [sm_k]
    have : ((k.toNat : Nat) : Int) ≤ 144 := by omega
    omega
  · have := hb p hp
    have := hb q hq
    show H p - H q ≤ 40000
    omega
  · have := hb p hp
    omega
  · have a := flK_pot hC h (fun e e1 _ => hP e e1) p hp (hlaid p hp)
    have b := flK_pot hC h (fun e e1 _ => hP e e1) q hq (hlaid q hq)
    have c1 := hSk p hp
    have c2 := hSk q hq
    rw [hg _ (by omega), hg _ (by omega)] at hs
    rw [show S q = S p by omega] at b
    omega
/-- all laid: where groups are alike along all edges there is one group -/
theorem conn (hC : 0 < C) {f : Nat → Int} (h : ∀ e : Nat, edP R C e → f (tipI C e).toNat = f ((e : Int) / 2).toNat) : ∀ p : Nat, (p : Int) < R * C → f p = f 0 := by
  have row : ∀ n r c : Nat, c = n → ((r * C.toNat + c : Nat) : Int) < R * C → (c : Int) < C → f (r * C.toNat + c) = f (r * C.toNat) := by
    intro n
    induction n with
    | zero => intro r c e _ _; rw [e]; rfl
    | succ n ih =>
      intro r c e h1 h2
      have := ih r n rfl (by omega) (by omega)
      rw [← this]
      have hd : ((r * C.toNat + n : Nat) : Int) / C = r ∧ ((r * C.toNat + n : Nat) : Int) % C = n := by
        have e1 : ((r * C.toNat + n : Nat) : Int) = (n : Int) + (r : Int) * C := by
          rw [Int.natCast_add, Int.natCast_mul, show ((C.toNat : Nat) : Int) = C by omega]
          omega
        rw [e1]
        exact ⟨by rw [Int.add_mul_ediv_right _ _ (by omega), Int.ediv_eq_zero_of_lt (by omega) (by omega), Int.zero_add], by rw [Int.add_mul_emod_self_right, Int.emod_eq_of_lt (by omega) (by omega)]⟩
      have ed : edP R C ((2 * (r * C.toNat + n) : Nat) : Int) := by
        refine ⟨by omega, by omega, fun _ => ?_, fun q => by omega⟩
        rw [show ((2 * (r * C.toNat + n) : Nat) : Int) / 2 = ((r * C.toNat + n : Nat) : Int) by omega, hd.2]
        omega
      have q := h _ ed
      unfold tipI at q
      rw [if_pos (by omega), show ((((2 * (r * C.toNat + n) : Nat) : Int) / 2) + 1).toNat = r * C.toNat + c by omega, show (((2 * (r * C.toNat + n) : Nat) : Int) / 2).toNat = r * C.toNat + n by omega] at q
      exact q
  have col : ∀ r : Nat, ((r * C.toNat : Nat) : Int) < R * C → f (r * C.toNat) = f 0 := by
    intro r
    induction r with
    | zero => intro _; rw [Nat.zero_mul]
    | succ r ih =>
      intro h1
      have hm : (r + 1) * C.toNat = r * C.toNat + C.toNat := Nat.succ_mul _ _
      rw [hm] at h1 ⊢
      rw [← ih (by omega)]
      have e1 : ((r * C.toNat : Nat) : Int) = (0 : Int) + (r : Int) * C := by
        rw [Int.natCast_mul, show ((C.toNat : Nat) : Int) = C by omega]
        omega
      have hd : ((r * C.toNat : Nat) : Int) / C = r := by
        rw [e1, Int.add_mul_ediv_right _ _ (by omega), Int.ediv_eq_zero_of_lt (by omega) (by omega), Int.zero_add]
      have hr : (r : Int) < R - 1 := by
        have h2 : (r : Int) * C + C < R * C := by omega
        have h3 : ((r : Int) + 1) * C < R * C := by rw [Int.add_mul, Int.one_mul]; exact h2
        have := Int.lt_of_mul_lt_mul_right h3 (by omega)
        omega
      have ed : edP R C ((2 * (r * C.toNat) + 1 : Nat) : Int) := by
        refine ⟨by omega, by omega, fun q => by omega, fun _ => ?_⟩
        rw [show ((2 * (r * C.toNat) + 1 : Nat) : Int) / 2 = ((r * C.toNat : Nat) : Int) by omega, hd]
        exact hr
      have q := h _ ed
      unfold tipI at q
      rw [if_neg (by omega), show (((2 * (r * C.toNat) + 1 : Nat) : Int) / 2 + C).toNat = r * C.toNat + C.toNat by omega, show (((2 * (r * C.toNat) + 1 : Nat) : Int) / 2).toNat = r * C.toNat by omega] at q
      exact q
  intro p hp
  have hd := Nat.div_add_mod p C.toNat
  have hm : p % C.toNat < C.toNat := Nat.mod_lt _ (by omega)
  have er : p = p / C.toNat * C.toNat + p % C.toNat := by rw [Nat.mul_comm]; omega
  rw [er] at hp ⊢
  rw [row _ (p / C.toNat) (p % C.toNat) rfl hp (by omega)]
  exact col _ (by omega)
theorem sm_01 {f : Nat → Int} (h01 : ∀ i, f i = 0 ∨ f i = 1) : ∀ n : Nat, 0 ≤ sm f n ∧ (2 ≤ sm f n → ∃ i j : Nat, i < j ∧ j < n ∧ f i = 1 ∧ f j = 1) ∧ (1 ≤ sm f n → ∃ i : Nat, i < n ∧ f i = 1)
  | 0 => ⟨Int.le_refl _, fun h => absurd (show (2 : Int) ≤ 0 from h) (by decide), fun h => absurd (show (1 : Int) ≤ 0 from h) (by decide)⟩
  | n + 1 => by
    obtain ⟨a, b, c⟩ := sm_01 h01 n
    have e : sm f (n + 1) = sm f n + f n := rfl
    rw [e]
    rcases h01 n with h | h
    · refine ⟨by omega, fun g => ?_, fun g => ?_⟩
      · obtain ⟨i, j, h1, h2, h3⟩ := b (by omega)
        exact ⟨i, j, h1, by omega, h3⟩
      · obtain ⟨i, h1, h2⟩ := c (by omega)
        exact ⟨i, by omega, h2⟩
    · refine ⟨by omega, fun g => ?_, fun _ => ⟨n, by omega, h⟩⟩
      obtain ⟨i, h1, h2⟩ := c (by omega)
      exact ⟨i, n, h1, by omega, h2, h⟩
/-- while there is more than one group, some edge is between two -/
theorem sI_more (hC : 0 < C) (h0 : 0 ≤ R * C) (h : sI R C ph lad k H F S V T sg left r) (hl : 2 ≤ left) : ∃ e : Nat, edP R C e ∧ sg (S ((e : Int) / 2).toNat).toNat ≠ sg (S (tipI C e).toNat).toNat := by
  obtain ⟨⟨hj, -⟩, ⟨⟨g1, g2⟩, -⟩, -⟩ := h
  apply Classical.byContradiction
  intro hn
  have hc := conn (R := R) hC (f := fun p => sg (S p).toNat) fun e he => Classical.byContradiction fun q => hn ⟨e, he, fun z => q z.symm⟩
  obtain ⟨i, j, hij, hjk, f1, f2⟩ := (sm_01 (f := fun i => if sg i = (i : Int) then 1 else 0) (fun i => by by_cases q : sg i = (i : Int); exact Or.inr (if_pos q); exact Or.inl (if_neg q)) k.toNat).2.1 (by rw [g2]; exact hl)
  have e1 : sg i = (i : Int) := Classical.byContradiction fun q => by rw [show (if sg i = (i : Int) then (1 : Int) else 0) = 0 from if_neg q] at f1; cases f1
  have e2 : sg j = (j : Int) := Classical.byContradiction fun q => by rw [show (if sg j = (j : Int) then (1 : Int) else 0) = 0 from if_neg q] at f2; cases f2
  obtain ⟨a, -, a2, a3, -⟩ := hj.2.2 i (by omega)
  obtain ⟨b, -, b2, b3, -⟩ := hj.2.2 j (by omega)
  have q1 := hc a a2
  have q2 := hc b b2
  have q1 : sg (S a).toNat = sg (S 0).toNat := q1
  have q2 : sg (S b).toNat = sg (S 0).toNat := q2
  rw [a3, show ((i : Int)).toNat = i by omega] at q1
  rw [b3, show ((j : Int)).toNat = j by omega] at q2
  omega
/-- one group: where the map has a height, all edges fit -/
theorem sI_one (hC : 0 < C) (h0 : 0 ≤ R * C) (h : sI R C ph lad k H F S V T sg left r) (hl : left = 1) {P : Nat → Int} (hP : potP R C ph P) : ∀ e : Nat, edP R C e → H (tipI C e).toNat - H ((e : Int) / 2).toNat = stA ph ((e : Int) / 2).toNat (tipI C e).toNat := by
  obtain ⟨⟨hj, hlad⟩, ⟨⟨g1, g2⟩, -⟩, -, -, hp⟩ := h
  have hlaid := flK_laid h0 hj (by omega)
  intro e he
  have tl := tip_lt hC he
  have key : ∀ i j : Nat, (i : Int) < k → (j : Int) < k → sg i = sg j := by
    intro i j hi hj
    obtain ⟨a, a1, a2, a3⟩ := g1 i hi
    obtain ⟨b, b1, b2, b3⟩ := g1 j hj
    apply Classical.byContradiction
    intro q
    have hab : a ≠ b := fun e => q (by rw [a1, b1, e])
    have h1 := sm_1 (fun i => if sg i = (i : Int) ∧ i ≠ a ∧ i ≠ b then (1 : Int) else 0) (fun i => if sg i = (i : Int) ∧ i ≠ b then (1 : Int) else 0) a k.toNat (fun i _ hne => by
      show (if sg i = (i : Int) ∧ i ≠ b then (1 : Int) else 0) = if sg i = (i : Int) ∧ i ≠ a ∧ i ≠ b then 1 else 0
      by_cases z : sg i = (i : Int) ∧ i ≠ b
      · rw [if_pos z, if_pos ⟨z.1, hne, z.2⟩]
      · rw [if_neg z, if_neg (fun y => z ⟨y.1, y.2.2⟩)])
    have h2 := sm_1 (fun i => if sg i = (i : Int) ∧ i ≠ b then (1 : Int) else 0) (fun i => if sg i = (i : Int) then (1 : Int) else 0) b k.toNat (fun i _ hne => by
      show (if sg i = (i : Int) then (1 : Int) else 0) = if sg i = (i : Int) ∧ i ≠ b then 1 else 0
      by_cases z : sg i = (i : Int)
      · rw [if_pos z, if_pos ⟨z, hne⟩]
      · rw [if_neg z, if_neg (fun y => z y.1)])
    have n0 := (sm_01 (f := fun i => if sg i = (i : Int) ∧ i ≠ a ∧ i ≠ b then (1 : Int) else 0) (fun i => by by_cases q : sg i = (i : Int) ∧ i ≠ a ∧ i ≠ b; exact Or.inr (if_pos q); exact Or.inl (if_neg q)) k.toNat).1
    have x1 : (if sg a = (a : Int) ∧ a ≠ b then (1 : Int) else 0) = 1 := if_pos ⟨a3, hab⟩
    have x2 : (if sg a = (a : Int) ∧ a ≠ a ∧ a ≠ b then (1 : Int) else 0) = 0 := if_neg fun y => y.2.1 rfl
    have x3 : (if sg b = (b : Int) then (1 : Int) else 0) = 1 := if_pos b3
    have x4 : (if sg b = (b : Int) ∧ b ≠ b then (1 : Int) else 0) = 0 := if_neg fun y => y.2 rfl
    rw [g2, if_pos (by omega)] at h2
    rw [if_pos (by omega)] at h1
    have h1 : sm (fun i => if sg i = (i : Int) ∧ i ≠ b then (1 : Int) else 0) k.toNat = sm (fun i => if sg i = (i : Int) ∧ i ≠ a ∧ i ≠ b then (1 : Int) else 0) k.toNat + ((if sg a = (a : Int) ∧ a ≠ b then (1 : Int) else 0) - (if sg a = (a : Int) ∧ a ≠ a ∧ a ≠ b then (1 : Int) else 0)) := h1
    have h2 : left = sm (fun i => if sg i = (i : Int) ∧ i ≠ b then (1 : Int) else 0) k.toNat + ((if sg b = (b : Int) then (1 : Int) else 0) - (if sg b = (b : Int) ∧ b ≠ b then (1 : Int) else 0)) := h2
    omega
  have b1 := (hj.2.1 _ (show ((((e : Int) / 2).toNat : Nat) : Int) < R * C by omega) (hlaid _ (by omega))).1
  have b2 := (hj.2.1 _ (show (((tipI C e).toNat : Nat) : Int) < R * C by omega) (hlaid _ (by omega))).1
  have := hp P hP ((e : Int) / 2).toNat (tipI C e).toNat (by omega) (by omega) (key _ _ (by omega) (by omega))
  have := hP e he
  omega
theorem sI_c (hC : 0 < C) (h : sI R C ph lad k H F S V T sg left r) (h2 : ∀ p : Nat, (p : Int) < R * C → H2 p = H p) (h3 : ∀ i : Nat, (i : Int) < k → sg2 i = sg i) (h0 : 0 ≤ R * C) : sI R C ph lad k H2 F S V T sg2 left r := by
  obtain ⟨⟨hj, hlad⟩, ⟨⟨g1, g2⟩, g3⟩, ⟨s, s0, s1, s2⟩, hb, hp⟩ := h
  have hlaid := flK_laid h0 hj (by omega)
  have hSk : ∀ p : Nat, (p : Int) < R * C → (((S p).toNat : Nat) : Int) < k := fun p hp => by have := (hj.2.1 p hp (hlaid p hp)).1; omega
  refine ⟨⟨flK_lift (m := fun _ => 0) hC hj fun p hp _ => by rw [h2 p hp]; show H p = H p + 255 * 0; omega, hlad⟩, ⟨⟨fun i hi => ?_, ?_⟩, g3⟩, ⟨s, s0, s1, fun p q hp hq e => ?_⟩, fun p hp => by rw [h2 p hp]; exact hb p hp, fun P hP p q hp2 hq e => ?_⟩
  · obtain ⟨j, j1, j2, j3⟩ := g1 i hi
    exact ⟨j, by rw [h3 i hi]; exact j1, j2, by rw [h3 j j2]; exact j3⟩
  · rw [← g2]
    refine sm_e _ fun i hi => ?_
    rw [h3 i (by omega)]
  · rw [h3 _ (hSk p hp), h3 _ (hSk q hq)] at e
    rw [h2 p hp, h2 q hq, h3 _ (hSk p hp)]
    exact s2 p q hp hq e
  · rw [h3 _ (hSk p hp2), h3 _ (hSk q hq)] at e
    rw [h2 p hp2, h2 q hq]
    exact hp P hP p q hp2 hq e
/-- a group is lifted so that one edge fits, and joined -/
theorem sI_next (hC : 0 < C) (h0 : 0 ≤ R * C) (hk : k ≤ 144) (h : sI R C ph lad k H F S V T sg left r) {a b : Nat} {t : Int} (hab : lk R C (fun _ => True) a b) (ht : 255 * t = stA ph a b - (H b - H a)) (hg : sg (S a).toNat ≠ sg (S b).toNat) (hH : ∀ p : Nat, (p : Int) < R * C → H2 p = H p + (if sg (S p).toNat = sg (S b).toNat then 255 * t else 0)) (hs : ∀ i : Nat, (i : Int) < k → sg2 i = if sg i = sg (S b).toNat then sg (S a).toNat else sg i) : sI R C ph lad k H2 F S V T sg2 (left - 1) (r + 1) := by
  obtain ⟨⟨hj, hlad⟩, ⟨⟨g1, g2⟩, g3, g4⟩, ⟨s, s0, s1, s2⟩, hb, hp⟩ := h
  have hlaid := flK_laid h0 hj (by omega)
  have hSk : ∀ p : Nat, (p : Int) < R * C → 0 ≤ S p ∧ S p < k := fun p hp => (hj.2.1 p hp (hlaid p hp)).1
  have hl := lk_lt hC hab
  obtain ⟨u, u1, u2, u3⟩ := g1 (S a).toNat (by have := hSk a hl.1; omega)
  obtain ⟨v, v1, v2, v3⟩ := g1 (S b).toNat (by have := hSk b hl.2.1; omega)
  have huv : u ≠ v := fun e => hg (by rw [u1, v1, e])
  have hleft : 0 ≤ left := by
    rw [← g2]
    exact (sm_01 (f := fun i => if sg i = (i : Int) then (1 : Int) else 0) (fun i => by by_cases q : sg i = (i : Int); exact Or.inr (if_pos q); exact Or.inl (if_neg q)) k.toNat).1
  rw [v1] at hH hs
  rw [u1] at hs
  have hst : -127 ≤ stA ph a b ∧ stA ph a b ≤ 127 := wr_bd0 _
  have ha : H2 a = H a := by rw [hH a hl.1, if_neg (by omega)]; omega
  have hb2 : H2 b = H a + stA ph a b := by rw [hH b hl.2.1, if_pos v1]; omega
  have sb : ∀ i, s i ≤ sm s k.toNat ∨ k ≤ (i : Int) := fun i => by
    by_cases q : i < k.toNat
    · exact Or.inl (sm_le s0 _ i q)
    · exact Or.inr (by omega)
  have su := (sb u).resolve_right (by omega)
  have sv := (sb v).resolve_right (by omega)
  have grp : ∀ p : Nat, (p : Int) < R * C → sg2 (S p).toNat = if sg (S p).toNat = (v : Int) then (u : Int) else sg (S p).toNat := fun p hp => hs _ (by have := hSk p hp; omega)
  have gv : ∀ p : Nat, (p : Int) < R * C → sg (S p).toNat = (v : Int) → H2 p = H p + 255 * t := fun p hp q => by rw [hH p hp, if_pos q]
  have gn : ∀ p : Nat, (p : Int) < R * C → sg (S p).toNat ≠ (v : Int) → H2 p = H p := fun p hp q => by rw [hH p hp, if_neg q]; omega
  -- of the lifted group, of the one that stays
  have toV : ∀ p : Nat, (p : Int) < R * C → sg (S p).toNat = (v : Int) → H2 p - H2 b ≤ s v ∧ H2 b - H2 p ≤ s v := fun p hp q => by
    have x := s2 p b hp hl.2.1 (by rw [q, v1])
    have y := s2 b p hl.2.1 hp (by rw [q, v1])
    rw [q, show ((v : Int)).toNat = v by omega] at x
    rw [v1, show ((v : Int)).toNat = v by omega] at y
    rw [gv p hp q, gv b hl.2.1 v1]
    omega
  have toU : ∀ p : Nat, (p : Int) < R * C → sg (S p).toNat = (u : Int) → H2 p - H2 a ≤ s u ∧ H2 a - H2 p ≤ s u := fun p hp q => by
    have x := s2 p a hp hl.1 (by rw [q, u1])
    have y := s2 a p hl.1 hp (by rw [q, u1])
    rw [q, show ((u : Int)).toNat = u by omega] at x
    rw [u1, show ((u : Int)).toNat = u by omega] at y
    rw [gn p hp (by omega), gn a hl.1 (by omega)]
    omega
  refine ⟨⟨flK_lift (m := fun i => if sg i = (v : Int) then t else 0) hC hj (fun p hp _ => ?_), hlad⟩, ⟨⟨fun i hi => ?_, ?_⟩, by omega, by omega⟩, ⟨fun i => if i = u then s u + s v + 127 else if i = v then 0 else s i, fun i => ?_, ?_, fun p q hp hq hpq => ?_⟩, fun p hp => ?_, fun P hP p q hp2 hq2 hpq => ?_⟩
  · rw [hH p hp]
    show _ = H p + 255 * (if sg (S p).toNat = (v : Int) then t else 0)
    by_cases q : sg (S p).toNat = (v : Int)
    · rw [if_pos q, if_pos q]
    · rw [if_neg q, if_neg q]
      omega
  · obtain ⟨j, j1, j2, j3⟩ := g1 i hi
    rw [hs i hi]
    by_cases q : sg i = (v : Int)
    · rw [if_pos q]
      exact ⟨u, rfl, u2, by rw [hs u u2, if_neg (by omega)]; exact u3⟩
    · rw [if_neg q]
      exact ⟨j, j1, j2, by rw [hs j j2, if_neg (by omega)]; exact j3⟩
  · have x := sm_1 (fun i => if sg2 i = (i : Int) then (1 : Int) else 0) (fun i => if sg i = (i : Int) then (1 : Int) else 0) v k.toNat (fun i hi hne => by
      show (if sg i = (i : Int) then (1 : Int) else 0) = if sg2 i = (i : Int) then 1 else 0
      rw [hs i (by omega)]
      by_cases q : sg i = (v : Int)
      · rw [if_pos q, if_neg (by omega)]
        by_cases z : (u : Int) = (i : Int)
        · have : i = u := by omega
          subst this
          omega
        · rw [if_neg z]
      · rw [if_neg q])
    have x1 : (if sg v = (v : Int) then (1 : Int) else 0) = 1 := if_pos v3
    have x2 : (if sg2 v = (v : Int) then (1 : Int) else 0) = 0 := by
      rw [hs v v2, if_pos v3]
      exact if_neg (by omega)
    rw [g2, if_pos (by omega)] at x
    have x : left = sm (fun i => if sg2 i = (i : Int) then (1 : Int) else 0) k.toNat + ((if sg v = (v : Int) then (1 : Int) else 0) - (if sg2 v = (v : Int) then (1 : Int) else 0)) := x
    omega
  · show 0 ≤ if i = u then s u + s v + 127 else if i = v then 0 else s i
    have := s0 u
    have := s0 v
    have := s0 i
    split
    · omega
    · split <;> omega
  · have x := sm_1 s (fun i => if i = u then s u + s v + 127 else s i) u k.toNat (fun i _ hne => if_neg hne)
    have y := sm_1 (fun i => if i = u then s u + s v + 127 else s i) (fun i => if i = u then s u + s v + 127 else if i = v then 0 else s i) v k.toNat (fun i _ hne => by
      show (if i = u then s u + s v + 127 else if i = v then 0 else s i) = if i = u then s u + s v + 127 else s i
      by_cases q : i = u
      · rw [if_pos q, if_pos q]
      · rw [if_neg q, if_neg q, if_neg hne])
    rw [if_pos (by omega)] at x y
    have x1 : (if u = u then s u + s v + 127 else s u) = s u + s v + 127 := if_pos rfl
    have y1 : (if v = u then s u + s v + 127 else s v) = s v := if_neg (fun e => huv e.symm)
    have y2 : (if v = u then s u + s v + 127 else if v = v then (0 : Int) else s v) = 0 := by rw [if_neg (fun e => huv e.symm), if_pos rfl]
    have x : sm (fun i => if i = u then s u + s v + 127 else s i) k.toNat = sm s k.toNat + ((if u = u then s u + s v + 127 else s u) - s u) := x
    have y : sm (fun i => if i = u then s u + s v + 127 else if i = v then 0 else s i) k.toNat = sm (fun i => if i = u then s u + s v + 127 else s i) k.toNat + ((if v = u then s u + s v + 127 else if v = v then (0 : Int) else s v) - (if v = u then s u + s v + 127 else s v)) := y
    omega
  · show H2 p - H2 q ≤ if (sg2 (S p).toNat).toNat = u then s u + s v + 127 else if (sg2 (S p).toNat).toNat = v then 0 else s (sg2 (S p).toNat).toNat
    have zu := s0 u
    have zv := s0 v
    rw [grp p hp, grp q hq] at hpq
    rw [grp p hp]
    by_cases qp : sg (S p).toNat = (v : Int)
    · rw [if_pos qp] at hpq ⊢
      rw [show ((u : Int)).toNat = u by omega, if_pos rfl]
      have x := toV p hp qp
      by_cases qq : sg (S q).toNat = (v : Int)
      · have y := toV q hq qq
        have z := s2 p q hp hq (by rw [qp, qq])
        rw [qp, show ((v : Int)).toNat = v by omega] at z
        rw [gv p hp qp, gv q hq qq]
        omega
      · rw [if_neg qq] at hpq
        have y := toU q hq hpq.symm
        omega
    · rw [if_neg qp] at hpq ⊢
      by_cases qq : sg (S q).toNat = (v : Int)
      · rw [if_pos qq] at hpq
        rw [hpq, show ((u : Int)).toNat = u by omega, if_pos rfl]
        have x := toU p hp hpq
        have y := toV q hq qq
        omega
      · rw [if_neg qq] at hpq
        have z := s2 p q hp hq hpq
        rw [gn p hp qp, gn q hq qq]
        obtain ⟨j, j1, j2, j3⟩ := g1 (S p).toNat (by have := hSk p hp; omega)
        rw [j1, show ((j : Int)).toNat = j by omega] at z ⊢
        by_cases e1 : j = u
        · rw [if_pos e1]
          rw [e1] at z
          omega
        · rw [if_neg e1, if_neg (by omega)]
          exact z
  · by_cases qp : sg (S p).toNat = (v : Int)
    · have x := toV p hp qp
      have y := hb a hl.1
      omega
    · rw [gn p hp qp]
      have := hb p hp
      omega
  · rw [grp p hp2, grp q hq2] at hpq
    have edge : H2 b - P b = H2 a - P a := by
      obtain ⟨e, e1, -, e3⟩ := hab
      have z := hP e e1
      rcases e3 with ⟨e3, e4⟩ | ⟨e3, e4⟩
      · rw [← e3, ← e4, show ((a : Int)).toNat = a by omega, show ((b : Int)).toNat = b by omega] at z
        omega
      · rw [← e3, ← e4, show ((a : Int)).toNat = a by omega, show ((b : Int)).toNat = b by omega, stA_neg] at z
        omega
    have pv : ∀ p : Nat, (p : Int) < R * C → sg (S p).toNat = (v : Int) → H2 p - P p = H2 b - P b := fun p h1 h2 => by
      have := hp P hP p b h1 hl.2.1 (by rw [h2, v1])
      rw [gv p h1 h2, gv b hl.2.1 v1]
      omega
    have pu : ∀ p : Nat, (p : Int) < R * C → sg (S p).toNat = (u : Int) → H2 p - P p = H2 a - P a := fun p h1 h2 => by
      have := hp P hP p a h1 hl.1 (by rw [h2, u1])
      rw [gn p h1 (by omega), gn a hl.1 (by omega)]
      exact this
    by_cases qp : sg (S p).toNat = (v : Int)
    · rw [if_pos qp] at hpq
      rw [pv p hp2 qp]
      by_cases qq : sg (S q).toNat = (v : Int)
      · rw [pv q hq2 qq]
      · rw [if_neg qq] at hpq
        rw [pu q hq2 hpq.symm]
        exact edge
    · rw [if_neg qp] at hpq
      by_cases qq : sg (S q).toNat = (v : Int)
      · rw [if_pos qq] at hpq
        rw [pu p hp2 hpq, pv q hq2 qq]
        exact edge.symm
      · rw [if_neg qq] at hpq
        have := hp P hP p q hp2 hq2 hpq
        rw [gn p hp2 qp, gn q hq2 qq]
        exact this
end
