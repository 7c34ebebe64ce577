/-! both sides alike: is there an image -/
def dAL : List EF := [(54, 11, 13), (40, 23, 24)]
def AL (X Y : Nat) (M : MM) : Prop := both X M ↔ M.2.2.2.2 Y 23 ≠ 0
theorem al_x {t : KT} {L : Nat} {xs : Nat → Int32} {X Y a b : Nat} {Γ Γ2 : Nat → Nat} {M M2 : MM} (hB : ((kEff t).all fun e => efDis e (54, 11, 13)) = true) (hI : INV L xs X Y a b Γ M) (hF : FRM (kEff t) Γ M M2) (hG : GEX M.1 Γ Γ2) : both X M2 ↔ both X M := by
  obtain ⟨hT, -, -, -, -, gX, -⟩ := hI
  obtain ⟨-, -, c1⟩ := cE hT hF hG (lo := 11) (hi := 13) (fun e he => List.all_eq_true.mp hB e he) gX (by decide)
  unfold both
  rw [c1 11 (by decide) (by decide), c1 12 (by decide) (by decide)]
theorem al_y {t : KT} {L : Nat} {xs : Nat → Int32} {X Y a b : Nat} {Γ Γ2 : Nat → Nat} {M M2 : MM} (hB : ((kEff t).all fun e => efDis e (40, 23, 24)) = true) (hI : INV L xs X Y a b Γ M) (hF : FRM (kEff t) Γ M M2) (hG : GEX M.1 Γ Γ2) : M2.2.2.2.2 Y 23 = M.2.2.2.2 Y 23 := by
  obtain ⟨hT, -, -, -, -, -, gY, -⟩ := hI
  obtain ⟨-, c2, -⟩ := cE hT hF hG (lo := 23) (hi := 24) (fun e he => List.all_eq_true.mp hB e he) gY (by decide)
  exact c2 23 (by decide) (by decide)
theorem AL_keep {t : KT} {L : Nat} {xs : Nat → Int32} {X Y a b : Nat} {Γ Γ2 : Nat → Nat} {M M2 : MM} (hB : (dAL.all fun q => (kEff t).all fun e => efDis e q) = true) (hI : INV L xs X Y a b Γ M) (hF : FRM (kEff t) Γ M M2) (hG : GEX M.1 Γ Γ2) (h : AL X Y M) : AL X Y M2 := by
  rw [List.all_eq_true] at hB
  unfold AL
  rw [al_x (hB (54, 11, 13) (by decide)) hI hF hG, al_y (hB (40, 23, 24) (by decide)) hI hF hG]
  exact h
/-- the reference's place is 0 or 1 -/
theorem y23 {L : Nat} {xs : Nat → Int32} {X Y a b : Nat} {Γ : Nat → Nat} {M : MM} (hI : INV L xs X Y a b Γ M) : 0 ≤ M.2.2.2.2 Y 23 ∧ M.2.2.2.2 Y 23 ≤ 1 := by
  obtain ⟨hT, -, -, -, -, -, gY, -⟩ := hI
  have h := (hT Y (by rw [gY]; decide)).2.2.1
  rw [gY] at h
  exact h (23, 24, 0, 1) (by decide) 23 (Nat.le_refl _) (by decide)
theorem f23 {g : GG} {Y : Nat} {v : Int} {Γ : Nat → Nat} {M : MM} (hY : Γ Y = 40) (h : M.2.2.2.2 Y 23 = v) : PSt g 3583 [vr Y, vi v, vi v] Γ M := (fId_eq g 40 23 Y v v Γ M (by decide)).mpr ⟨hY, by decide, Int.le_of_eq h.symm, Int.le_of_eq h⟩
theorem f23' {g : GG} {Y : Nat} {v : Int} {Γ : Nat → Nat} {M : MM} (h : PSt g 3583 [vr Y, vi v, vi v] Γ M) : M.2.2.2.2 Y 23 = v := by
  obtain ⟨-, -, h1, h2⟩ := (fId_eq g 40 23 Y v v Γ M (by decide)).mp h
  omega
theorem preY_ok2 {t : KT} {L : Nat} {xs : Nat → Int32} {X Y a b : Nat} {Γ : Nat → Nat} {M : MM} {ρ : Nat → Int} {fx : PFE} (h : ((kPre t).all fun f => isin f (fx :: L78 :: LY)) = true) (hn : b ≤ 512) (hI : INV L xs X Y a b Γ M) (hx : PSt (gI b) fx.1 (fx.2.map (valO ρ (fun _ => Y))) Γ M) : PFs (PSt (gI b)) ρ (fun _ => Y) Γ M (kPre t) := by
  intro f hf
  rw [List.all_eq_true] at h
  rcases List.mem_cons.mp (isin_iff (h f hf)) with rfl | h2
  · exact hx
  · exact pre_ok (l := [f]) (by show (isin f (L78 :: LY) && true) = true; rw [Bool.and_true]; unfold isin; rw [List.any_eq_true]; exact ⟨f, h2, decide_eq_true rfl⟩) (by decide) hn hI.2.2.2.2.2.2.2.2 f List.mem_cons_self
theorem res_T {g : GG} {t : KT} {ρ : Nat → Int} {α Γ : Nat → Nat} {M : MM} {r : Option MV} (h : (kRes t).1 = 2) (hF : (kF t).1 = [(1, 1, 0)]) (hR : RESok (PSt g) t ρ α Γ M r) : r = some (vi 1) ∧ CNDok (PSt g) ρ α Γ M (kT t) := by
  unfold RESok at hR
  rw [h] at hR
  rcases hR with h | ⟨-, h, -⟩
  · exact h
  · rw [hF] at h
    have h0 : (1 : Int) ≤ ρ 1 ∧ ρ 1 ≤ 0 := h (1, 1, 0) List.mem_cons_self
    omega
theorem res_F {g : GG} {t : KT} {ρ : Nat → Int} {α Γ : Nat → Nat} {M : MM} {r : Option MV} (h : (kRes t).1 = 2) (hF : (kT t).1 = [(1, 1, 0)]) (hR : RESok (PSt g) t ρ α Γ M r) : r = some (vi 0) ∧ CNDok (PSt g) ρ α Γ M (kF t) := by
  unfold RESok at hR
  rw [h] at hR
  rcases hR with ⟨-, h, -⟩ | h
  · rw [hF] at h
    have h0 : (1 : Int) ≤ ρ 1 ∧ ρ 1 ≤ 0 := h (1, 1, 0) List.mem_cons_self
    omega
  · exact h
