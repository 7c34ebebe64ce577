/-! p44: a seed may be chosen -/
theorem pmR_z {g g2 : GG} {Γ : Nat → Nat} {M : MM} {Q : GG → List (Nat → Int) → List MV → Prop} (hQ : ∀ fs l, Q g fs l → Q g2 fs l) : ∀ (os : List (Nat × VSP)) (fs : List (Nat → Int)) (l : List MV), pmR g Γ M Q os fs l → pmR g2 Γ M Q os fs l
  | [], fs, l, h => hQ fs l h
  | o :: os, fs, l, h => by
    unfold pmR at h ⊢
    split at h
    · exact ⟨h.1, h.2.1, pmR_z hQ os _ _ h.2.2⟩
    · exact h.elim
def zFr (f : FPr) : Prop := ∀ (g : GG) (z : Nat) (l : List MV) (Γ : Nat → Nat) (M : MM), f g l Γ M ↔ f (g.1, g.2.1, z) l Γ M
theorem PM_z {os : List (Nat × VSP)} {Q : GG → List (Nat → Int) → List MV → Prop} (hQ : ∀ (g g2 : GG) fs l, Q g fs l → Q g2 fs l) : zFr (PM os Q) := fun _ _ l _ _ => ⟨pmR_z (hQ _ _) os [] l, pmR_z (hQ _ _) os [] l⟩
theorem kcloseZ {t1 t2 : KT} (ht : t1 = (t2.1, t2.2.1, t2.2.2.1, kPre t1, t2.2.2.2.2))
    (hz : ∀ (p : PFE), p ∈ kPre t2 ∨ p ∈ kPost t2 ∨ p ∈ (kT t2).2 ∨ p ∈ (kF t2).2 → ∀ (g : GG) (z : Nat) (l : List MV) (Γ : Nat → Nat) (M : MM), PSt g p.1 l Γ M ↔ PSt (g.1, g.2.1, z) p.1 l Γ M)
    (hx : ∀ (g : GG) (ρ : Nat → Int) (α Γ : Nat → Nat) (M : MM) (as : List MV), HTy Yt Γ M → ARs ρ α Γ (kArgs t2) as → PFs (PSt g) ρ α Γ M (kPre t2) → ∃ z : Nat, PFs (PSt (g.1, g.2.1, z)) ρ α Γ M (kPre t1))
    (hk : ∀ g, KOK Yt (PSt g) t1) (g : GG) : KOK Yt (PSt g) t2 := by
  intro d ρ α Γ M as gs hg hd hT hB hA hP
  obtain ⟨z, hf⟩ := hx g ρ α Γ M (as ++ gs) hT hA hP
  have hk := hk (g.1, g.2.1, z)
  generalize kPre t1 = P1 at ht hf
  subst ht
  have := hk d ρ α Γ M as gs hg hd hT hB hA hf
  refine this.imp fun r M2 q => ?_
  obtain ⟨Γ2, a, b, c, e, f2, w⟩ := q
  exact ⟨Γ2, a, b, c, e, f2, RESok_imp (t := t2) (fun _ h p hp => (hz p (Or.inr (Or.inl hp)) g z _ _ _).mpr (h p hp)) (fun _ h p hp => (hz p (Or.inr (Or.inr (Or.inl hp))) g z _ _ _).mpr (h p hp)) (fun _ h p hp => (hz p (Or.inr (Or.inr (Or.inr hp))) g z _ _ _).mpr (h p hp)) w⟩
theorem z_fid {id : Nat} (h : 1000 ≤ id) (g : GG) (z : Nat) (l : List MV) (Γ : Nat → Nat) (M : MM) : PSt g id l Γ M ↔ PSt (g.1, g.2.1, z) id l Γ M := by
  unfold PSt
  rw [FL_lt h]
/-- a seed that tells of a chart, a lay, a front -/
theorem seedF (g : GG) {Γ : Nat → Nat} {M : MM} (hT : HTy Yt Γ M) {c l f : Nat} (gc : Γ c = 1) (gl : Γ l = 10) (gf : Γ f = 26) (h0 : vsv M c ([], 0, 2) 0 ≤ 9) (h1 : vsv M c ([], 0, 2) 1 ≤ 9) : ∃ z, PSt (g.1, g.2.1, z) 463 [vr l, vr c] Γ M ∧ PSt (g.1, g.2.1, z) 464 [vr f] Γ M := by
  have d := cdim hT gc
  obtain ⟨z, hz⟩ := zD_of 460 (fun j => if j = 1 then vsv M c ([], 0, 2) 1 else if j = 2 then vsv M c ([], 0, 2) 0 else if j < 10 then 0 else if j < 154 then vsv M l ([(6, 13)], 0, 144) (j - 10) else if j < 160 then 0 else if j < 448 then vsv M f ([(0, 27)], 0, 288) (j - 160) else 0) (fun j hj => by
    show _ ≤ (if j = 1 then vsv M c ([], 0, 2) 1 else if j = 2 then vsv M c ([], 0, 2) 0 else if j < 10 then 0 else if j < 154 then vsv M l ([(6, 13)], 0, 144) (j - 10) else if j < 160 then 0 else if j < 448 then vsv M f ([(0, 27)], 0, 288) (j - 160) else 0) ∧ (if j = 1 then vsv M c ([], 0, 2) 1 else if j = 2 then vsv M c ([], 0, 2) 0 else if j < 10 then 0 else if j < 154 then vsv M l ([(6, 13)], 0, 144) (j - 10) else if j < 160 then 0 else if j < 448 then vsv M f ([(0, 27)], 0, 288) (j - 160) else 0) < _
    split
    · omega
    · split
      · omega
      · split
        · omega
        · split
          · have := vB hT [(6, 13)] gl (by decide) (by decide) (by decide) (r := (0, 144, -1, 143)) (by decide) (k := j - 10) (lo := 0) (hi := 144) (Nat.zero_le _) (by show j - 10 < 144; omega) (Nat.zero_le _) (by omega)
            have h3 : -1 ≤ vsv M l ([(6, 13)], 0, 144) (j - 10) ∧ vsv M l ([(6, 13)], 0, 144) (j - 10) ≤ 143 := this
            omega
          · split
            · omega
            · split
              · have := vB hT [(0, 27)] gf (by decide) (by decide) (by decide) (r := (0, 288, 0, 1)) (by decide) (k := j - 160) (lo := 0) (hi := 288) (Nat.zero_le _) (by show j - 160 < 288; omega) (Nat.zero_le _) (by omega)
                have h3 : 0 ≤ vsv M f ([(0, 27)], 0, 288) (j - 160) ∧ vsv M f ([(0, 27)], 0, 288) (j - 160) ≤ 1 := this
                omega
              · omega)
  have e1 : zC (g.1, g.2.1, z) = vsv M c ([], 0, 2) 1 := hz g.1 g.2.1 1 (by decide)
  have e2 : zR (g.1, g.2.1, z) = vsv M c ([], 0, 2) 0 := hz g.1 g.2.1 2 (by decide)
  refine ⟨z, ⟨gl, pic1 hT gl (by decide) (by decide), gc, pic1 hT gc (by decide) (by decide), ⟨e2.symm, e1.symm⟩, ⟨⟨by rw [e2]; exact d.1.1, by rw [e2]; exact h0⟩, by rw [e1]; exact d.2.1, by rw [e1]; exact h1⟩, fun j hj => ?_⟩, ⟨gf, pic1 hT gf (by decide) (by decide), fun e he => ?_⟩⟩
  · have := hz g.1 g.2.1 (10 + j) (by omega)
    show _ = zD (g.1, g.2.1, z) (10 + j)
    rw [this, if_neg (by omega), if_neg (by omega), if_neg (by omega), if_pos (by omega), show 10 + j - 10 = j by omega]
    rfl
  · have := hz g.1 g.2.1 (160 + e) (by omega)
    show _ = zD (g.1, g.2.1, z) (160 + e)
    rw [this, if_neg (by omega), if_neg (by omega), if_neg (by omega), if_neg (by omega), if_neg (by omega), if_pos (by omega), show 160 + e - 160 = e by omega]
    rfl
set_option maxRecDepth 100000 in
/-- a seed that tells of a chart's phases, a lay's heights and islands -/
theorem seedS (g : GG) {Γ : Nat → Nat} {M : MM} (hT : HTy Yt Γ M) {c l : Nat} (gc : Γ c = 1) (gl : Γ l = 110) (h0 : vsv M c ([], 0, 2) 0 ≤ 9) (h1 : vsv M c ([], 0, 2) 1 ≤ 9) : ∃ z, PSt (g.1, g.2.1, z) 769 [vr c, vr l] Γ M := by
  have d := cdim hT gc
  obtain ⟨z, hz⟩ := zD_of 460 (fun j => if j = 1 then vsv M c ([], 0, 2) 1 else if j = 2 then vsv M c ([], 0, 2) 0 else if j < 10 then 0 else if j < 154 then vsv M c ([(2, 2)], 0, 144) (j - 10) else if j < 160 then 0 else if j < 304 then vsv M l ([(4, 111)], 0, 144) (j - 160) else if j < 310 then 0 else if j < 454 then vsv M l ([(6, 113)], 0, 144) (j - 310) else 0) (fun j hj => by
    show _ ≤ (if j = 1 then vsv M c ([], 0, 2) 1 else if j = 2 then vsv M c ([], 0, 2) 0 else if j < 10 then 0 else if j < 154 then vsv M c ([(2, 2)], 0, 144) (j - 10) else if j < 160 then 0 else if j < 304 then vsv M l ([(4, 111)], 0, 144) (j - 160) else if j < 310 then 0 else if j < 454 then vsv M l ([(6, 113)], 0, 144) (j - 310) else 0) ∧ (if j = 1 then vsv M c ([], 0, 2) 1 else if j = 2 then vsv M c ([], 0, 2) 0 else if j < 10 then 0 else if j < 154 then vsv M c ([(2, 2)], 0, 144) (j - 10) else if j < 160 then 0 else if j < 304 then vsv M l ([(4, 111)], 0, 144) (j - 160) else if j < 310 then 0 else if j < 454 then vsv M l ([(6, 113)], 0, 144) (j - 310) else 0) < _
    split
    · omega
    · split
      · omega
      · split
        · omega
        · split
          · have h3 := cph hT gc (k := j - 10) (by omega)
            omega
          · split
            · omega
            · split
              · have h3 : -2147483648 ≤ vsv M l ([(4, 111)], 0, 144) (j - 160) ∧ vsv M l ([(4, 111)], 0, 144) (j - 160) ≤ 2147483647 := vB hT [(4, 111)] gl (by decide) (by decide) (by decide) (r := (0, 144, -2147483648, 2147483647)) (by decide) (k := j - 160) (lo := 0) (hi := 144) (Nat.zero_le _) (by show j - 160 < 144; omega) (Nat.zero_le _) (by omega)
                omega
              · split
                · omega
                · split
                  · have h3 : -1 ≤ vsv M l ([(6, 113)], 0, 144) (j - 310) ∧ vsv M l ([(6, 113)], 0, 144) (j - 310) ≤ 143 := vB hT [(6, 113)] gl (by decide) (by decide) (by decide) (r := (0, 144, -1, 143)) (by decide) (k := j - 310) (lo := 0) (hi := 144) (Nat.zero_le _) (by show j - 310 < 144; omega) (Nat.zero_le _) (by omega)
                    omega
                  · omega)
  have e1 : zC (g.1, g.2.1, z) = vsv M c ([], 0, 2) 1 := hz g.1 g.2.1 1 (by decide)
  have e2 : zR (g.1, g.2.1, z) = vsv M c ([], 0, 2) 0 := hz g.1 g.2.1 2 (by decide)
  refine ⟨z, gc, pic1 hT gc (by decide) (by decide), gl, pic1 hT gl (by decide) (by decide), ⟨e2.symm, e1.symm⟩, ⟨⟨by rw [e2]; exact d.1.1, by rw [e2]; exact h0⟩, by rw [e1]; exact d.2.1, by rw [e1]; exact h1⟩, fun j hj => ⟨?_, ?_, ?_⟩⟩
  · have := hz g.1 g.2.1 (10 + j) (by omega)
    show _ = zD (g.1, g.2.1, z) (10 + j)
    rw [this, if_neg (by omega), if_neg (by omega), if_neg (by omega), if_pos (by omega), show 10 + j - 10 = j by omega]
    rfl
  · have := hz g.1 g.2.1 (160 + j) (by omega)
    show _ = zD (g.1, g.2.1, z) (160 + j)
    rw [this, if_neg (by omega), if_neg (by omega), if_neg (by omega), if_neg (by omega), if_neg (by omega), if_pos (by omega), show 160 + j - 160 = j by omega]
    rfl
  · have := hz g.1 g.2.1 (310 + j) (by omega)
    show _ = zD (g.1, g.2.1, z) (310 + j)
    rw [this, if_neg (by omega), if_neg (by omega), if_neg (by omega), if_neg (by omega), if_neg (by omega), if_neg (by omega), if_neg (by omega), if_pos (by omega), show 310 + j - 310 = j by omega]
    rfl
set_option maxRecDepth 100000 in
/-- a seed that tells of a lay's heights, of the islands of a group -/
theorem seedL (g : GG) {Γ : Nat → Nat} {M : MM} (hT : HTy Yt Γ M) {s l : Nat} (gs : Γ s = 31) (gl : Γ l = 110) (y : Int) : ∃ z, PSt (g.1, g.2.1, z) 798 [vr s, vi y] Γ M ∧ PSt (g.1, g.2.1, z) 797 [vr l] Γ M := by
  obtain ⟨z, hz⟩ := zD_of 460 (fun j => if j < 160 then 0 else if j < 304 then vsv M l ([(4, 111)], 0, 144) (j - 160) else if j < 310 then 0 else if j < 454 then (if vsv M s ([(5, 34)], 0, 144) (j - 310) = y then 1 else 0) else 0) (fun j hj => by
    show _ ≤ (if j < 160 then 0 else if j < 304 then vsv M l ([(4, 111)], 0, 144) (j - 160) else if j < 310 then 0 else if j < 454 then (if vsv M s ([(5, 34)], 0, 144) (j - 310) = y then (1 : Int) else 0) else 0) ∧ (if j < 160 then 0 else if j < 304 then vsv M l ([(4, 111)], 0, 144) (j - 160) else if j < 310 then 0 else if j < 454 then (if vsv M s ([(5, 34)], 0, 144) (j - 310) = y then (1 : Int) else 0) else 0) < _
    split
    · omega
    · split
      · have h3 : -2147483648 ≤ vsv M l ([(4, 111)], 0, 144) (j - 160) ∧ vsv M l ([(4, 111)], 0, 144) (j - 160) ≤ 2147483647 := vB hT [(4, 111)] gl (by decide) (by decide) (by decide) (r := (0, 144, -2147483648, 2147483647)) (by decide) (k := j - 160) (lo := 0) (hi := 144) (Nat.zero_le _) (by show j - 160 < 144; omega) (Nat.zero_le _) (by omega)
        omega
      · split
        · omega
        · split
          · split <;> omega
          · omega)
  refine ⟨z, ⟨gs, pic1 hT gs (by decide) (by decide), fun j hj => ?_⟩, ⟨gl, pic1 hT gl (by decide) (by decide), fun j hj => ?_⟩⟩
  · have := hz g.1 g.2.1 (310 + j) (by omega)
    show zD (g.1, g.2.1, z) (310 + j) = _
    rw [this, if_neg (by omega), if_neg (by omega), if_neg (by omega), if_pos (by omega), show 310 + j - 310 = j by omega]
    rfl
  · have := hz g.1 g.2.1 (160 + j) (by omega)
    show zD (g.1, g.2.1, z) (160 + j) = _
    rw [this, if_neg (by omega), if_pos (by omega), show 160 + j - 160 = j by omega]
    rfl
set_option maxRecDepth 100000 in
/-- a seed that tells of a chart alone -/
theorem seedC (g : GG) {Γ : Nat → Nat} {M : MM} (hT : HTy Yt Γ M) {c : Nat} (gc : Γ c = 1) : ∃ z, PSt (g.1, g.2.1, z) 786 [vr c] Γ M := by
  have d := cdim hT gc
  obtain ⟨z, hz⟩ := zD_of 154 (fun j => if j = 1 then vsv M c ([], 0, 2) 1 else if j = 2 then vsv M c ([], 0, 2) 0 else if j < 10 then 0 else if j < 154 then vsv M c ([(2, 2)], 0, 144) (j - 10) else 0) (fun j hj => by
    show _ ≤ (if j = 1 then vsv M c ([], 0, 2) 1 else if j = 2 then vsv M c ([], 0, 2) 0 else if j < 10 then 0 else if j < 154 then vsv M c ([(2, 2)], 0, 144) (j - 10) else 0) ∧ (if j = 1 then vsv M c ([], 0, 2) 1 else if j = 2 then vsv M c ([], 0, 2) 0 else if j < 10 then 0 else if j < 154 then vsv M c ([(2, 2)], 0, 144) (j - 10) else 0) < _
    split
    · omega
    · split
      · omega
      · split
        · omega
        · have h3 := cph hT gc (k := j - 10) (by omega)
          omega)
  have e1 : zC (g.1, g.2.1, z) = vsv M c ([], 0, 2) 1 := hz g.1 g.2.1 1 (by decide)
  have e2 : zR (g.1, g.2.1, z) = vsv M c ([], 0, 2) 0 := hz g.1 g.2.1 2 (by decide)
  refine ⟨z, gc, pic1 hT gc (by decide) (by decide), ⟨e2.symm, e1.symm⟩, ?_⟩
  show clp [(0, 144)] _ = clp [(0, 144)] _
  refine clp_eq fun r hr k h1 h2 => ?_
  cases List.mem_singleton.mp hr
  have h2 : k < 144 := h2
  have := hz g.1 g.2.1 (10 + k) (by omega)
  rw [if_neg (by omega), if_neg (by omega), if_neg (by omega), if_pos (by omega), show 10 + k - 10 = k by omega] at this
  have h3 : vsv M c ([(2, 2)], 0, 144) k = M.2.2.2.2 (wlk M c [(2, 2)]) k := cAll h2
  exact h3.symm.trans this.symm
