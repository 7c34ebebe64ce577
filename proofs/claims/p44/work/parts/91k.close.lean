/-! p44: a seed may be chosen -/
theorem pmR_z {g g2 : GG} {Γ : Nat → Nat} {M : MM} {Q : GG → List (Nat → Int) → List MV → Prop} (hQ : ∀ fs l, Q g fs l → Q g2 fs l) : ∀ (os : List (Nat × VSP)) (fs : List (Nat → Int)) (l : List MV), pmR g Γ M Q os fs l → pmR g2 Γ M Q os fs l
  | [], fs, l, h => hQ fs l h
  | o :: os, fs, l, h => by
    unfold pmR at h ⊢
    split at h
    · exact ⟨h.1, h.2.1, pmR_z hQ os _ _ h.2.2⟩
    · exact h.elim
def zFr (f : FPr) : Prop := ∀ (g : GG) (z : Nat) (l : List MV) (Γ : Nat → Nat) (M : MM), f g l Γ M ↔ f (g.1, g.2.1, z) l Γ M
theorem PM_z {os : List (Nat × VSP)} {Q : GG → List (Nat → Int) → List MV → Prop} (hQ : ∀ (g g2 : GG) fs l, Q g fs l → Q g2 fs l) : zFr (PM os Q) := fun _ _ l _ _ => ⟨pmR_z (hQ _ _) os [] l, pmR_z (hQ _ _) os [] l⟩
theorem kcloseZ {t1 t2 : KT} (ht : t1 = (t2.1, t2.2.1, t2.2.2.1, kPre t1, t2.2.2.2.2))
    (hz : ∀ (p : PFE), p ∈ kPre t2 ∨ p ∈ kPost t2 ∨ p ∈ (kT t2).2 ∨ p ∈ (kF t2).2 → ∀ (g : GG) (z : Nat) (l : List MV) (Γ : Nat → Nat) (M : MM), PSt g p.1 l Γ M ↔ PSt (g.1, g.2.1, z) p.1 l Γ M)
    (hx : ∀ (g : GG) (ρ : Nat → Int) (α Γ : Nat → Nat) (M : MM) (as : List MV), HTy Yt Γ M → ARs ρ α Γ (kArgs t2) as → PFs (PSt g) ρ α Γ M (kPre t2) → ∃ z : Nat, PFs (PSt (g.1, g.2.1, z)) ρ α Γ M (kPre t1))
    (hk : ∀ g, KOK Yt (PSt g) t1) (g : GG) : KOK Yt (PSt g) t2 := by
  intro d ρ α Γ M as gs hg hd hT hB hA hP
  obtain ⟨z, hf⟩ := hx g ρ α Γ M (as ++ gs) hT hA hP
  have hk := hk (g.1, g.2.1, z)
  generalize kPre t1 = P1 at ht hf
  subst ht
  have := hk d ρ α Γ M as gs hg hd hT hB hA hf
  refine this.imp fun r M2 q => ?_
  obtain ⟨Γ2, a, b, c, e, f2, w⟩ := q
  exact ⟨Γ2, a, b, c, e, f2, RESok_imp (t := t2) (fun _ h p hp => (hz p (Or.inr (Or.inl hp)) g z _ _ _).mpr (h p hp)) (fun _ h p hp => (hz p (Or.inr (Or.inr (Or.inl hp))) g z _ _ _).mpr (h p hp)) (fun _ h p hp => (hz p (Or.inr (Or.inr (Or.inr hp))) g z _ _ _).mpr (h p hp)) w⟩
