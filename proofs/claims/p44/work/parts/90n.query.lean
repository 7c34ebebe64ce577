/-! p44: ways back, heights, edges counted -/
def ancF (F : Nat → Int) (p : Nat) : Nat → Int
  | 0 => p
  | i + 1 => F (ancF F p i).toNat
def dptF (F : Nat → Int) (p : Nat) (d : Int) : Prop := 0 ≤ d ∧ (∀ i : Nat, (i : Int) ≤ d → 0 ≤ ancF F p i) ∧ ancF F p (d + 1).toNat = -1
theorem dpt_u {F : Nat → Int} {p : Nat} {d d2 : Int} (h : dptF F p d) (h2 : dptF F p d2) : d = d2 := by
  obtain ⟨a1, a2, a3⟩ := h
  obtain ⟨b1, b2, b3⟩ := h2
  rcases Int.lt_trichotomy d d2 with q | q | q
  · have := b2 (d + 1).toNat (by omega)
    omega
  · exact q
  · have := a2 (d2 + 1).toNat (by omega)
    omega
def chF (n : Int) (F S V : Nat → Int) : Prop := ∀ p : Nat, (p : Int) < n → S p ≠ -1 ∧ (1 ≤ V p ∧ V p ≤ 144) ∧ (F p = -1 ∨ ∃ q : Nat, F p = (q : Int) ∧ (q : Int) < n ∧ S q = S p ∧ V q < V p)
theorem flJ_p {R C : Int} {ph : Nat → Int} {pe : Nat → Prop} {lad k : Int} {H F S V T : Nat → Int} (hn : 0 ≤ R * C) (h : flJ R C ph pe lad k H F S V T) (hl : lad = R * C) {p : Nat} (hp : (p : Int) < R * C) : S p ≠ -1 ∧ flP R C ph pe lad k H F S V T p :=
  ⟨flJ_laid hn h (by omega) p hp, h.2.1 p hp (flJ_laid hn h (by omega) p hp)⟩
theorem chF_of {R C : Int} {ph : Nat → Int} {pe : Nat → Prop} {lad k : Int} {H F S V T : Nat → Int} (hC : 0 < C) (hn : 0 ≤ R * C) (h144 : R * C ≤ 144) (h : flJ R C ph pe lad k H F S V T) (hl : lad = R * C) : chF lad F S V := fun p hp => by
  obtain ⟨a, -, b, -, c⟩ := flJ_p hn h hl (p := p) (by omega)
  refine ⟨a, ⟨b.1, by omega⟩, ?_⟩
  rcases c with c | ⟨-, q, c1, c2, c3, c4, -⟩
  · exact Or.inl c.1
  · exact Or.inr ⟨q, c1, by rw [hl]; exact (lk_lt hC c2).1, c3, c4⟩
/-- along a way back -/
theorem anc_in {n : Int} {F S V : Nat → Int} (h : chF n F S V) {p : Nat} (hp : (p : Int) < n) : ∀ i : Nat, (∀ j : Nat, j ≤ i → 0 ≤ ancF F p j) → ancF F p i < n ∧ S (ancF F p i).toNat = S p ∧ V (ancF F p i).toNat + i ≤ V p
  | 0, _ => ⟨hp, congrArg S (Int.toNat_natCast p), by
    show V (p : Int).toNat + ((0 : Nat) : Int) ≤ V p
    rw [Int.toNat_natCast]
    omega⟩
  | i + 1, hi => by
    obtain ⟨a1, a2, a3⟩ := anc_in h hp i (fun j hj => hi j (Nat.le_succ_of_le hj))
    have h0 := hi i (Nat.le_succ i)
    have h1 : 0 ≤ F (ancF F p i).toNat := hi (i + 1) (Nat.le_refl _)
    show F (ancF F p i).toNat < n ∧ S (F (ancF F p i).toNat).toNat = S p ∧ V (F (ancF F p i).toNat).toNat + ((i + 1 : Nat) : Int) ≤ V p
    obtain ⟨-, -, c⟩ := h (ancF F p i).toNat (by omega)
    rcases c with c | ⟨q, c1, c2, c3, c4⟩
    · omega
    · rw [c1, Int.toNat_natCast]
      exact ⟨c2, c3.trans a2, by omega⟩
theorem anc_no {n : Int} {F S V : Nat → Int} (h : chF n F S V) {p : Nat} (hp : (p : Int) < n) (hi : ∀ j : Nat, j ≤ 144 → 0 ≤ ancF F p j) : False := by
  obtain ⟨a1, a2, a3⟩ := anc_in h hp 144 hi
  have := (h (ancF F p 144).toNat (by have := hi 144 (Nat.le_refl _); omega)).2.1
  have := (h p hp).2.1
  omega
/-- the last on a way back began the island -/
theorem dpt_T {R C : Int} {ph : Nat → Int} {pe : Nat → Prop} {lad k : Int} {H F S V T : Nat → Int} (hC : 0 < C) (hn : 0 ≤ R * C) (h144 : R * C ≤ 144) (h : flJ R C ph pe lad k H F S V T) (hl : lad = R * C) {p : Nat} (hp : (p : Int) < R * C) {d : Int} (hd : dptF F p d) : T (S p).toNat = ancF F p d.toNat := by
  obtain ⟨d1, d2, d3⟩ := hd
  obtain ⟨a1, a2, -⟩ := anc_in (chF_of hC hn h144 h hl) (show (p : Int) < lad by omega) d.toNat (fun j hj => d2 j (by omega))
  have h0 := d2 d.toNat (by omega)
  have e : F (ancF F p d.toNat).toNat = -1 := by
    rw [show (d + 1).toNat = d.toNat + 1 by omega] at d3
    exact d3
  obtain ⟨-, -, -, -, c⟩ := flJ_p hn h hl (p := (ancF F p d.toNat).toNat) (by omega)
  rcases c with ⟨-, c⟩ | ⟨-, q, c1, -⟩
  · rw [a2] at c
    omega
  · omega
/-- edges counted -/
def edI (R C : Int) (e : Nat) : Int := if (e : Int) < 2 * (R * C) ∧ (e % 2 = 0 → ((e / 2 : Nat) : Int) % C < C - 1) ∧ (e % 2 ≠ 0 → ((e / 2 : Nat) : Int) / C < R - 1) then 1 else 0
theorem edI_1 {R C : Int} {e : Nat} (h : edP R C e) : edI R C e = 1 := if_pos ⟨h.2.1, fun q => by have := h.2.2.1 (by omega); rw [show ((e / 2 : Nat) : Int) = (e : Int) / 2 by omega]; exact this, fun q => by have := h.2.2.2 (by omega); rw [show ((e / 2 : Nat) : Int) = (e : Int) / 2 by omega]; exact this⟩
theorem edI_0 {R C : Int} {e : Nat} (h : ¬ edP R C e) : edI R C e = 0 := if_neg fun q => h ⟨by omega, q.1, fun w => by have := q.2.1 (by omega); rw [show ((e / 2 : Nat) : Int) = (e : Int) / 2 by omega] at this; exact this, fun w => by have := q.2.2 (by omega); rw [show ((e / 2 : Nat) : Int) = (e : Int) / 2 by omega] at this; exact this⟩
theorem ed_ct0 : ∀ r : Nat, r < 8 → ∀ c : Nat, c < 8 → sm (edI ((r : Int) + 2) ((c : Int) + 2)) (2 * ((r + 2) * (c + 2))) = ((r : Int) + 2) * ((c : Int) + 1) + ((c : Int) + 2) * ((r : Int) + 1) := by decide +kernel
theorem ed_ct {R C : Int} (h1 : 2 ≤ R ∧ R ≤ 9) (h2 : 2 ≤ C ∧ C ≤ 9) : sm (edI R C) (2 * (R * C)).toNat = R * (C - 1) + C * (R - 1) := by
  have h := ed_ct0 (R - 2).toNat (by omega) (C - 2).toNat (by omega)
  have e1 : (((R - 2).toNat : Nat) : Int) = R - 2 := by omega
  have e2 : (((C - 2).toNat : Nat) : Int) = C - 2 := by omega
  rw [e1, e2, show R - 2 + 2 = R by omega, show C - 2 + 2 = C by omega, show C - 2 + 1 = C - 1 by omega, show R - 2 + 1 = R - 1 by omega] at h
  have e3 : (2 * (R * C)).toNat = 2 * (((R - 2).toNat + 2) * ((C - 2).toNat + 2)) := by
    have : ((2 * (((R - 2).toNat + 2) * ((C - 2).toNat + 2)) : Nat) : Int) = 2 * (R * C) := by
      rw [Int.natCast_mul, Int.natCast_mul, Int.natCast_add, Int.natCast_add, e1, e2]
      show 2 * ((R - 2 + 2) * (C - 2 + 2)) = _
      rw [show R - 2 + 2 = R by omega, show C - 2 + 2 = C by omega]
    omega
  rw [e3]
  exact h
/-- without torn rings nothing needs to be cut -/
theorem JNF_0 {R C t : Int} {ph rg cg : Nat → Int} (hC : 0 < C) (hR : 0 < R) (h : TRF R C ph t rg cg) (h0 : t = 0) : JNF R C ph (fun _ => 0) := by
  refine ⟨fun _ => 0, fun e _ => ⟨Int.le_refl _, fun _ => rfl⟩, fun r c hr hc => ?_⟩
  have hz : crl C.toNat ph (r * C.toNat + c) = 0 := by
    by_cases q : crl C.toNat ph (r * C.toNat + c) = 0
    · exact q
    · obtain ⟨i, hi, -⟩ := h.2.2 ((r * C.toNat + c : Nat) : Int) (rgP_of hC hr hc) (by rw [Int.toNat_natCast]; exact q)
      omega
  rw [hz]
  show (255 : Int) * (0 + 0 - 0 - 0) = 0
  rfl
