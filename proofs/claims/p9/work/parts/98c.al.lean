/-! both sides alike: the state, is there an image, the image's state -/
def dAL : List EF := [(54, 9, 10), (54, 11, 13), (54, 13, 14), (40, 3, 4), (40, 23, 24), (40, 27, 28)]
def AL (X Y : Nat) (M : MM) : Prop := (both X M ↔ M.2.2.2.2 Y 23 ≠ 0) ∧ M.2.2.2.2 X 9 = M.2.2.2.2 Y 3 ∧ (both X M → M.2.2.2.2 X 13 = M.2.2.2.2 Y 27)
theorem al_x {t : KT} {L : Nat} {xs : Nat → Int32} {X Y a b : Nat} {Γ Γ2 : Nat → Nat} {M M2 : MM} (hB : ((kEff t).all fun e => efDis e (54, 11, 13)) = true) (hI : INV L xs X Y a b Γ M) (hF : FRM (kEff t) Γ M M2) (hG : GEX M.1 Γ Γ2) : both X M2 ↔ both X M := by
  obtain ⟨hT, -, -, -, -, gX, -⟩ := hI
  obtain ⟨-, -, c1⟩ := cE hT hF hG (lo := 11) (hi := 13) (fun e he => List.all_eq_true.mp hB e he) gX (by decide)
  unfold both
  rw [c1 11 (by decide) (by decide), c1 12 (by decide) (by decide)]
theorem al_xi {t : KT} {L : Nat} {xs : Nat → Int32} {X Y a b : Nat} {Γ Γ2 : Nat → Nat} {M M2 : MM} (j : Nat) (hB : ((kEff t).all fun e => efDis e (54, j, j + 1)) = true) (hI : INV L xs X Y a b Γ M) (hF : FRM (kEff t) Γ M M2) (hG : GEX M.1 Γ Γ2) : M2.2.2.2.2 X j = M.2.2.2.2 X j := by
  obtain ⟨hT, -, -, -, -, gX, -⟩ := hI
  obtain ⟨-, c2, -⟩ := cE hT hF hG (lo := j) (hi := j + 1) (fun e he => List.all_eq_true.mp hB e he) gX (by decide)
  exact c2 j (Nat.le_refl _) (Nat.lt_succ_self _)
theorem al_yi {t : KT} {L : Nat} {xs : Nat → Int32} {X Y a b : Nat} {Γ Γ2 : Nat → Nat} {M M2 : MM} (j : Nat) (hB : ((kEff t).all fun e => efDis e (40, j, j + 1)) = true) (hI : INV L xs X Y a b Γ M) (hF : FRM (kEff t) Γ M M2) (hG : GEX M.1 Γ Γ2) : M2.2.2.2.2 Y j = M.2.2.2.2 Y j := by
  obtain ⟨hT, -, -, -, -, -, gY, -⟩ := hI
  obtain ⟨-, c2, -⟩ := cE hT hF hG (lo := j) (hi := j + 1) (fun e he => List.all_eq_true.mp hB e he) gY (by decide)
  exact c2 j (Nat.le_refl _) (Nat.lt_succ_self _)
theorem AL_keep {t : KT} {L : Nat} {xs : Nat → Int32} {X Y a b : Nat} {Γ Γ2 : Nat → Nat} {M M2 : MM} (hB : (dAL.all fun q => (kEff t).all fun e => efDis e q) = true) (hI : INV L xs X Y a b Γ M) (hF : FRM (kEff t) Γ M M2) (hG : GEX M.1 Γ Γ2) (h : AL X Y M) : AL X Y M2 := by
  rw [List.all_eq_true] at hB
  unfold AL
  rw [al_x (hB (54, 11, 13) (by decide)) hI hF hG, al_xi 9 (hB (54, 9, 10) (by decide)) hI hF hG, al_xi 13 (hB (54, 13, 14) (by decide)) hI hF hG, al_yi 23 (hB (40, 23, 24) (by decide)) hI hF hG, al_yi 3 (hB (40, 3, 4) (by decide)) hI hF hG, al_yi 27 (hB (40, 27, 28) (by decide)) hI hF hG]
  exact h
/-- the reference's place is 0 or 1 -/
theorem y23 {L : Nat} {xs : Nat → Int32} {X Y a b : Nat} {Γ : Nat → Nat} {M : MM} (hI : INV L xs X Y a b Γ M) : 0 ≤ M.2.2.2.2 Y 23 ∧ M.2.2.2.2 Y 23 ≤ 1 := by
  obtain ⟨hT, -, -, -, -, -, gY, -⟩ := hI
  have h := (hT Y (by rw [gY]; decide)).2.2.1
  rw [gY] at h
  exact h (23, 24, 0, 1) (by decide) 23 (Nat.le_refl _) (by decide)
/-- a seed for a number -/
theorem sd_of {L : Nat} {xs : Nat → Int32} {X Y a b : Nat} {Γ : Nat → Nat} {M : MM} (n : Nat) (hI : INV L xs X Y a b Γ M) : ∃ z, M.2.2.2.2 X 9 = sdG (gZ n z) := by
  obtain ⟨hT, -, -, -, -, gX, -⟩ := hI
  have h := (hT X (by rw [gX]; decide)).2.2.1
  rw [gX] at h
  have h2 : -2147483648 ≤ M.2.2.2.2 X 9 ∧ M.2.2.2.2 X 9 ≤ 2147483647 := h (9, 10, -2147483648, 2147483647) (by decide) 9 (Nat.le_refl _) (by decide)
  exact sdG_of (x := M.2.2.2.2 X 9) ⟨h2.1, by omega⟩
theorem sd_of27 {L : Nat} {xs : Nat → Int32} {X Y a b : Nat} {Γ : Nat → Nat} {M : MM} (n : Nat) (hI : INV L xs X Y a b Γ M) : ∃ z, M.2.2.2.2 Y 27 = sdG (gZ n z) := by
  obtain ⟨hT, -, -, -, -, -, gY, -⟩ := hI
  have h := (hT Y (by rw [gY]; decide)).2.2.1
  rw [gY] at h
  have h2 : -2147483648 ≤ M.2.2.2.2 Y 27 ∧ M.2.2.2.2 Y 27 ≤ 2147483647 := h (27, 28, -2147483648, 2147483647) (by decide) 27 (Nat.le_refl _) (by decide)
  exact sdG_of (x := M.2.2.2.2 Y 27) ⟨h2.1, by omega⟩
theorem f451 {g : GG} {X : Nat} {Γ : Nat → Nat} {M : MM} (hX : Γ X = 54) (h : M.2.2.2.2 X 9 = sdG g) : PSt g 451 [vr X, vi 0, vi 0] Γ M := (show P451 g [vr X, vi 0, vi 0] Γ M from ⟨hX, fun _ h => absurd h List.not_mem_nil, ⟨by decide, by decide⟩, h⟩)
theorem f452 {g : GG} {X : Nat} {Γ : Nat → Nat} {M : MM} (hX : Γ X = 40) (h : M.2.2.2.2 X 3 = sdG g) : PSt g 452 [vr X, vi 0, vi 0] Γ M := (show P452 g [vr X, vi 0, vi 0] Γ M from ⟨hX, fun _ h => absurd h List.not_mem_nil, ⟨by decide, by decide⟩, h⟩)
theorem f454 {g : GG} {X : Nat} {Γ : Nat → Nat} {M : MM} (hX : Γ X = 40) (h : M.2.2.2.2 X 27 = sdG g) : PSt g 454 [vr X] Γ M := (show P454 g [vr X] Γ M from ⟨hX, fun _ h => absurd h List.not_mem_nil, h⟩)
theorem u451 {g : GG} {X : Nat} {k : Int} {Γ : Nat → Nat} {M : MM} (h : PSt g 451 [vr X, vi k, vi 0] Γ M) : M.2.2.2.2 X 9 = drN (2 * k.toNat + 0) (sdG g) := by
  obtain ⟨-, -, -, h⟩ := (show P451 g [vr X, vi k, vi 0] Γ M from h)
  exact h
theorem u452 {g : GG} {X : Nat} {k : Int} {Γ : Nat → Nat} {M : MM} (h : PSt g 452 [vr X, vi k, vi 0] Γ M) : M.2.2.2.2 X 3 = drN (2 * k.toNat + 0) (sdG g) := by
  obtain ⟨-, -, -, h⟩ := (show P452 g [vr X, vi k, vi 0] Γ M from h)
  exact h
theorem u454 {g : GG} {X : Nat} {Γ : Nat → Nat} {M : MM} (h : PSt g 454 [vr X] Γ M) : M.2.2.2.2 X 27 = sdG g := by
  obtain ⟨-, -, h⟩ := (show P454 g [vr X] Γ M from h)
  exact h
theorem u453 {g : GG} {x : Int} {Γ : Nat → Nat} {M : MM} (h : PSt g 453 [vi x, vi 0, vi 0] Γ M) : x = sdG g := (show P453 g [vi x, vi 0, vi 0] Γ M from h).2
set_option maxRecDepth 100000 in
theorem f23 {g : GG} {Y : Nat} {v : Int} {Γ : Nat → Nat} {M : MM} (hY : Γ Y = 40) (h : M.2.2.2.2 Y 23 = v) : PSt g 3583 [vr Y, vi v, vi v] Γ M := (fId_eq g 40 23 Y v v Γ M (by decide)).mpr ⟨hY, by decide, Int.le_of_eq h.symm, Int.le_of_eq h⟩
set_option maxRecDepth 100000 in
theorem f23' {g : GG} {Y : Nat} {v : Int} {Γ : Nat → Nat} {M : MM} (h : PSt g 3583 [vr Y, vi v, vi v] Γ M) : M.2.2.2.2 Y 23 = v := by
  obtain ⟨-, -, h1, h2⟩ := (fId_eq g 40 23 Y v v Γ M (by decide)).mp h
  omega
theorem res_T {g : GG} {t : KT} {ρ : Nat → Int} {α Γ : Nat → Nat} {M : MM} {r : Option MV} (h : (kRes t).1 = 2) (hF : (kF t).1 = [(1, 1, 0)]) (hR : RESok (PSt g) t ρ α Γ M r) : r = some (vi 1) ∧ CNDok (PSt g) ρ α Γ M (kT t) := by
  unfold RESok at hR
  rw [h] at hR
  rcases hR with h | ⟨-, h, -⟩
  · exact h
  · rw [hF] at h
    have h0 : (1 : Int) ≤ ρ 1 ∧ ρ 1 ≤ 0 := h (1, 1, 0) List.mem_cons_self
    omega
theorem res_F {g : GG} {t : KT} {ρ : Nat → Int} {α Γ : Nat → Nat} {M : MM} {r : Option MV} (h : (kRes t).1 = 2) (hF : (kT t).1 = [(1, 1, 0)]) (hR : RESok (PSt g) t ρ α Γ M r) : r = some (vi 0) ∧ CNDok (PSt g) ρ α Γ M (kF t) := by
  unfold RESok at hR
  rw [h] at hR
  rcases hR with ⟨-, h, -⟩ | h
  · rw [hF] at h
    have h0 : (1 : Int) ≤ ρ 1 ∧ ρ 1 ≤ 0 := h (1, 1, 0) List.mem_cons_self
    omega
  · exact h
/-- noise: how far the state went -/
theorem noi_r {g : GG} {t : KT} {fx τ : Nat} {ρ : Nat → Int} {X : Nat} {Γ : Nat → Nat} {M : MM} {r : Option MV} (h1 : (kRes t).1 = 2) (b1 : (kT t).1 = [(1, 1, 60)]) (p1 : (fx, [(2, 0, τ, 0), (1, 1, 0, 0), (0, 0, 0, 0)]) ∈ (kT t).2) (p2 : (fx, [(2, 0, τ, 0), (0, 0, 0, 0), (0, 0, 0, 0)]) ∈ (kF t).2) (p3 : (440, [(1, 1, 0, 0), (0, 0, 0, 1), (0, 0, 0, 60)]) ∈ (kF t).2) (hR : RESok (PSt g) t ρ (fun _ => X) Γ M r) : (1 ≤ ρ 1 ∧ ρ 1 ≤ 60) ∧ PSt g fx [vr X, vi (ρ 1), vi 0] Γ M ∨ (ρ 1 < 1 ∨ 60 < ρ 1) ∧ PSt g fx [vr X, vi 0, vi 0] Γ M := by
  unfold RESok at hR
  rw [h1] at hR
  rcases hR with ⟨-, c1, c2⟩ | ⟨-, -, c2⟩
  · rw [b1] at c1
    have h0 : (1 : Int) ≤ ρ 1 ∧ ρ 1 ≤ 60 := c1 (1, 1, 60) List.mem_cons_self
    have h2 : PSt g fx [vr X, vi (ρ 1 + 0), vi 0] Γ M := c2 _ p1
    rw [Int.add_zero] at h2
    exact Or.inl ⟨h0, h2⟩
  · have h0 : ρ 1 + 0 < 1 ∨ 60 < ρ 1 + 0 := c2 _ p3
    have h2 : PSt g fx [vr X, vi 0, vi 0] Γ M := c2 _ p2
    exact Or.inr ⟨by omega, h2⟩
set_option maxRecDepth 100000 in
set_option maxRecDepth 100000 in
/-- state: what it was, what it is -/
theorem sta_r {g : GG} {t : KT} {j τ : Nat} {ρ : Nat → Int} {X : Nat} {Γ : Nat → Nat} {M : MM} {r : Option MV} (hj : j < 64) (h1 : (kRes t).1 = 1) (hl : (kArgs t).length = 2) (p1 : (453, [(1, 2, 0, 0), (0, 0, 0, 0), (0, 0, 0, 0)]) ∈ kPost t) (p2 : (fId τ j, [(2, 0, τ, 0), (1, 1, 0, 0), (1, 1, 0, 0)]) ∈ kPost t) (hR : RESok (PSt g) t ρ (fun _ => X) Γ M r) : r = some (vi (sdG g)) ∧ M.2.2.2.2 X j = ρ 1 := by
  unfold RESok at hR
  rw [h1] at hR
  obtain ⟨x, rfl, -, -, h⟩ := hR
  rw [hl] at h
  have e1 : PSt g 453 [vi (x + 0), vi 0, vi 0] Γ M := h _ p1
  have e2 : PSt g (fId τ j) [vr X, vi (ρ 1 + 0), vi (ρ 1 + 0)] Γ M := h _ p2
  rw [Int.add_zero] at e1 e2
  obtain ⟨-, -, q1, q2⟩ := (fId_eq g τ j X (ρ 1) (ρ 1) Γ M hj).mp e2
  rw [u453 e1]
  exact ⟨rfl, by omega⟩
