/-! p44: a seed may be chosen -/
theorem pmR_z {g g2 : GG} {Γ : Nat → Nat} {M : MM} {Q : GG → List (Nat → Int) → List MV → Prop} (hQ : ∀ fs l, Q g fs l → Q g2 fs l) : ∀ (os : List (Nat × VSP)) (fs : List (Nat → Int)) (l : List MV), pmR g Γ M Q os fs l → pmR g2 Γ M Q os fs l
  | [], fs, l, h => hQ fs l h
  | o :: os, fs, l, h => by
    unfold pmR at h ⊢
    split at h
    · exact ⟨h.1, h.2.1, pmR_z hQ os _ _ h.2.2⟩
    · exact h.elim
def zFr (f : FPr) : Prop := ∀ (g : GG) (z : Nat) (l : List MV) (Γ : Nat → Nat) (M : MM), f g l Γ M ↔ f (g.1, g.2.1, z) l Γ M
theorem PM_z {os : List (Nat × VSP)} {Q : GG → List (Nat → Int) → List MV → Prop} (hQ : ∀ (g g2 : GG) fs l, Q g fs l → Q g2 fs l) : zFr (PM os Q) := fun _ _ l _ _ => ⟨pmR_z (hQ _ _) os [] l, pmR_z (hQ _ _) os [] l⟩
theorem kcloseZ {t1 t2 : KT} (ht : t1 = (t2.1, t2.2.1, t2.2.2.1, kPre t1, t2.2.2.2.2))
    (hz : ∀ (p : PFE), p ∈ kPre t2 ∨ p ∈ kPost t2 ∨ p ∈ (kT t2).2 ∨ p ∈ (kF t2).2 → ∀ (g : GG) (z : Nat) (l : List MV) (Γ : Nat → Nat) (M : MM), PSt g p.1 l Γ M ↔ PSt (g.1, g.2.1, z) p.1 l Γ M)
    (hx : ∀ (g : GG) (ρ : Nat → Int) (α Γ : Nat → Nat) (M : MM) (as : List MV), HTy Yt Γ M → ARs ρ α Γ (kArgs t2) as → PFs (PSt g) ρ α Γ M (kPre t2) → ∃ z : Nat, PFs (PSt (g.1, g.2.1, z)) ρ α Γ M (kPre t1))
    (hk : ∀ g, KOK Yt (PSt g) t1) (g : GG) : KOK Yt (PSt g) t2 := by
  intro d ρ α Γ M as gs hg hd hT hB hA hP
  obtain ⟨z, hf⟩ := hx g ρ α Γ M (as ++ gs) hT hA hP
  have hk := hk (g.1, g.2.1, z)
  generalize kPre t1 = P1 at ht hf
  subst ht
  have := hk d ρ α Γ M as gs hg hd hT hB hA hf
  refine this.imp fun r M2 q => ?_
  obtain ⟨Γ2, a, b, c, e, f2, w⟩ := q
  exact ⟨Γ2, a, b, c, e, f2, RESok_imp (t := t2) (fun _ h p hp => (hz p (Or.inr (Or.inl hp)) g z _ _ _).mpr (h p hp)) (fun _ h p hp => (hz p (Or.inr (Or.inr (Or.inl hp))) g z _ _ _).mpr (h p hp)) (fun _ h p hp => (hz p (Or.inr (Or.inr (Or.inr hp))) g z _ _ _).mpr (h p hp)) w⟩
theorem z_fid {id : Nat} (h : 1000 ≤ id) (g : GG) (z : Nat) (l : List MV) (Γ : Nat → Nat) (M : MM) : PSt g id l Γ M ↔ PSt (g.1, g.2.1, z) id l Γ M := by
  unfold PSt
  rw [FL_lt h]
/-- a seed that tells of a chart, a lay, a front -/
theorem seedF (g : GG) {Γ : Nat → Nat} {M : MM} (hT : HTy Yt Γ M) {c l f : Nat} (gc : Γ c = 1) (gl : Γ l = 10) (gf : Γ f = 26) (h0 : vsv M c ([], 0, 2) 0 ≤ 9) (h1 : vsv M c ([], 0, 2) 1 ≤ 9) : ∃ z, PSt (g.1, g.2.1, z) 463 [vr l, vr c] Γ M ∧ PSt (g.1, g.2.1, z) 464 [vr f] Γ M := by
  have d := cdim hT gc
  obtain ⟨z, hz⟩ := zD_of 460 (fun j => if j = 1 then vsv M c ([], 0, 2) 1 else if j = 2 then vsv M c ([], 0, 2) 0 else if j < 10 then 0 else if j < 154 then vsv M l ([(6, 13)], 0, 144) (j - 10) else if j < 160 then 0 else if j < 448 then vsv M f ([(0, 27)], 0, 288) (j - 160) else 0) (fun j hj => by
    show _ ≤ (if j = 1 then vsv M c ([], 0, 2) 1 else if j = 2 then vsv M c ([], 0, 2) 0 else if j < 10 then 0 else if j < 154 then vsv M l ([(6, 13)], 0, 144) (j - 10) else if j < 160 then 0 else if j < 448 then vsv M f ([(0, 27)], 0, 288) (j - 160) else 0) ∧ (if j = 1 then vsv M c ([], 0, 2) 1 else if j = 2 then vsv M c ([], 0, 2) 0 else if j < 10 then 0 else if j < 154 then vsv M l ([(6, 13)], 0, 144) (j - 10) else if j < 160 then 0 else if j < 448 then vsv M f ([(0, 27)], 0, 288) (j - 160) else 0) < _
    split
    · omega
    · split
      · omega
      · split
        · omega
        · split
          · have := vB hT [(6, 13)] gl (by decide) (by decide) (by decide) (r := (0, 144, -1, 143)) (by decide) (k := j - 10) (lo := 0) (hi := 144) (Nat.zero_le _) (by show j - 10 < 144; omega) (Nat.zero_le _) (by omega)
            have h3 : -1 ≤ vsv M l ([(6, 13)], 0, 144) (j - 10) ∧ vsv M l ([(6, 13)], 0, 144) (j - 10) ≤ 143 := this
            omega
          · split
            · omega
            · split
              · have := vB hT [(0, 27)] gf (by decide) (by decide) (by decide) (r := (0, 288, 0, 1)) (by decide) (k := j - 160) (lo := 0) (hi := 288) (Nat.zero_le _) (by show j - 160 < 288; omega) (Nat.zero_le _) (by omega)
                have h3 : 0 ≤ vsv M f ([(0, 27)], 0, 288) (j - 160) ∧ vsv M f ([(0, 27)], 0, 288) (j - 160) ≤ 1 := this
                omega
              · omega)
  have e1 : zC (g.1, g.2.1, z) = vsv M c ([], 0, 2) 1 := hz g.1 g.2.1 1 (by decide)
  have e2 : zR (g.1, g.2.1, z) = vsv M c ([], 0, 2) 0 := hz g.1 g.2.1 2 (by decide)
  refine ⟨z, ⟨gl, pic1 hT gl (by decide) (by decide), gc, pic1 hT gc (by decide) (by decide), ⟨e2.symm, e1.symm⟩, ⟨⟨by rw [e2]; exact d.1.1, by rw [e2]; exact h0⟩, by rw [e1]; exact d.2.1, by rw [e1]; exact h1⟩, fun j hj => ?_⟩, ⟨gf, pic1 hT gf (by decide) (by decide), fun e he => ?_⟩⟩
  · have := hz g.1 g.2.1 (10 + j) (by omega)
    show _ = zD (g.1, g.2.1, z) (10 + j)
    rw [this, if_neg (by omega), if_neg (by omega), if_neg (by omega), if_pos (by omega), show 10 + j - 10 = j by omega]
    rfl
  · have := hz g.1 g.2.1 (160 + e) (by omega)
    show _ = zD (g.1, g.2.1, z) (160 + e)
    rw [this, if_neg (by omega), if_neg (by omega), if_neg (by omega), if_neg (by omega), if_neg (by omega), if_pos (by omega), show 160 + e - 160 = e by omega]
    rfl
set_option maxRecDepth 100000 in
/-- a seed that tells of a chart's phases, a lay's heights and islands -/
theorem seedS (g : GG) {Γ : Nat → Nat} {M : MM} (hT : HTy Yt Γ M) {c l : Nat} (gc : Γ c = 1) (gl : Γ l = 110) (h0 : vsv M c ([], 0, 2) 0 ≤ 9) (h1 : vsv M c ([], 0, 2) 1 ≤ 9) : ∃ z, PSt (g.1, g.2.1, z) 769 [vr c, vr l] Γ M := by
  have d := cdim hT gc
  obtain ⟨z, hz⟩ := zD_of 460 (fun j => if j = 1 then vsv M c ([], 0, 2) 1 else if j = 2 then vsv M c ([], 0, 2) 0 else if j < 10 then 0 else if j < 154 then vsv M c ([(2, 2)], 0, 144) (j - 10) else if j < 160 then 0 else if j < 304 then vsv M l ([(4, 111)], 0, 144) (j - 160) else if j < 310 then 0 else if j < 454 then vsv M l ([(6, 113)], 0, 144) (j - 310) else 0) (fun j hj => by
    show _ ≤ (if j = 1 then vsv M c ([], 0, 2) 1 else if j = 2 then vsv M c ([], 0, 2) 0 else if j < 10 then 0 else if j < 154 then vsv M c ([(2, 2)], 0, 144) (j - 10) else if j < 160 then 0 else if j < 304 then vsv M l ([(4, 111)], 0, 144) (j - 160) else if j < 310 then 0 else if j < 454 then vsv M l ([(6, 113)], 0, 144) (j - 310) else 0) ∧ (if j = 1 then vsv M c ([], 0, 2) 1 else if j = 2 then vsv M c ([], 0, 2) 0 else if j < 10 then 0 else if j < 154 then vsv M c ([(2, 2)], 0, 144) (j - 10) else if j < 160 then 0 else if j < 304 then vsv M l ([(4, 111)], 0, 144) (j - 160) else if j < 310 then 0 else if j < 454 then vsv M l ([(6, 113)], 0, 144) (j - 310) else 0) < _
    split
    · omega
    · split
      · omega
      · split
        · omega
        · split
          · have h3 := cph hT gc (k := j - 10) (by omega)
            omega
          · split
            · omega
            · split
              · have h3 : -2147483648 ≤ vsv M l ([(4, 111)], 0, 144) (j - 160) ∧ vsv M l ([(4, 111)], 0, 144) (j - 160) ≤ 2147483647 := vB hT [(4, 111)] gl (by decide) (by decide) (by decide) (r := (0, 144, -2147483648, 2147483647)) (by decide) (k := j - 160) (lo := 0) (hi := 144) (Nat.zero_le _) (by show j - 160 < 144; omega) (Nat.zero_le _) (by omega)
                omega
              · split
                · omega
                · split
                  · have h3 : -1 ≤ vsv M l ([(6, 113)], 0, 144) (j - 310) ∧ vsv M l ([(6, 113)], 0, 144) (j - 310) ≤ 143 := vB hT [(6, 113)] gl (by decide) (by decide) (by decide) (r := (0, 144, -1, 143)) (by decide) (k := j - 310) (lo := 0) (hi := 144) (Nat.zero_le _) (by show j - 310 < 144; omega) (Nat.zero_le _) (by omega)
                    omega
                  · omega)
  have e1 : zC (g.1, g.2.1, z) = vsv M c ([], 0, 2) 1 := hz g.1 g.2.1 1 (by decide)
  have e2 : zR (g.1, g.2.1, z) = vsv M c ([], 0, 2) 0 := hz g.1 g.2.1 2 (by decide)
  refine ⟨z, gc, pic1 hT gc (by decide) (by decide), gl, pic1 hT gl (by decide) (by decide), ⟨e2.symm, e1.symm⟩, ⟨⟨by rw [e2]; exact d.1.1, by rw [e2]; exact h0⟩, by rw [e1]; exact d.2.1, by rw [e1]; exact h1⟩, fun j hj => ⟨?_, ?_, ?_⟩⟩
  · have := hz g.1 g.2.1 (10 + j) (by omega)
    show _ = zD (g.1, g.2.1, z) (10 + j)
    rw [this, if_neg (by omega), if_neg (by omega), if_neg (by omega), if_pos (by omega), show 10 + j - 10 = j by omega]
    rfl
  · have := hz g.1 g.2.1 (160 + j) (by omega)
    show _ = zD (g.1, g.2.1, z) (160 + j)
    rw [this, if_neg (by omega), if_neg (by omega), if_neg (by omega), if_neg (by omega), if_neg (by omega), if_pos (by omega), show 160 + j - 160 = j by omega]
    rfl
  · have := hz g.1 g.2.1 (310 + j) (by omega)
    show _ = zD (g.1, g.2.1, z) (310 + j)
    rw [this, if_neg (by omega), if_neg (by omega), if_neg (by omega), if_neg (by omega), if_neg (by omega), if_neg (by omega), if_neg (by omega), if_pos (by omega), show 310 + j - 310 = j by omega]
    rfl
set_option maxRecDepth 100000 in
/-- a seed that tells of a lay's heights, of the islands of a group -/
theorem seedL (g : GG) {Γ : Nat → Nat} {M : MM} (hT : HTy Yt Γ M) {s l : Nat} (gs : Γ s = 31) (gl : Γ l = 110) (y : Int) : ∃ z, PSt (g.1, g.2.1, z) 798 [vr s, vi y] Γ M ∧ PSt (g.1, g.2.1, z) 797 [vr l] Γ M := by
  obtain ⟨z, hz⟩ := zD_of 460 (fun j => if j < 160 then 0 else if j < 304 then vsv M l ([(4, 111)], 0, 144) (j - 160) else if j < 310 then 0 else if j < 454 then (if vsv M s ([(5, 34)], 0, 144) (j - 310) = y then 1 else 0) else 0) (fun j hj => by
    show _ ≤ (if j < 160 then 0 else if j < 304 then vsv M l ([(4, 111)], 0, 144) (j - 160) else if j < 310 then 0 else if j < 454 then (if vsv M s ([(5, 34)], 0, 144) (j - 310) = y then (1 : Int) else 0) else 0) ∧ (if j < 160 then 0 else if j < 304 then vsv M l ([(4, 111)], 0, 144) (j - 160) else if j < 310 then 0 else if j < 454 then (if vsv M s ([(5, 34)], 0, 144) (j - 310) = y then (1 : Int) else 0) else 0) < _
    split
    · omega
    · split
      · have h3 : -2147483648 ≤ vsv M l ([(4, 111)], 0, 144) (j - 160) ∧ vsv M l ([(4, 111)], 0, 144) (j - 160) ≤ 2147483647 := vB hT [(4, 111)] gl (by decide) (by decide) (by decide) (r := (0, 144, -2147483648, 2147483647)) (by decide) (k := j - 160) (lo := 0) (hi := 144) (Nat.zero_le _) (by show j - 160 < 144; omega) (Nat.zero_le _) (by omega)
        omega
      · split
        · omega
        · split
          · split <;> omega
          · omega)
  refine ⟨z, ⟨gs, pic1 hT gs (by decide) (by decide), fun j hj => ?_⟩, ⟨gl, pic1 hT gl (by decide) (by decide), fun j hj => ?_⟩⟩
  · have := hz g.1 g.2.1 (310 + j) (by omega)
    show zD (g.1, g.2.1, z) (310 + j) = _
    rw [this, if_neg (by omega), if_neg (by omega), if_neg (by omega), if_pos (by omega), show 310 + j - 310 = j by omega]
    rfl
  · have := hz g.1 g.2.1 (160 + j) (by omega)
    show zD (g.1, g.2.1, z) (160 + j) = _
    rw [this, if_neg (by omega), if_pos (by omega), show 160 + j - 160 = j by omega]
    rfl
set_option maxRecDepth 100000 in
/-- a seed that tells of a chart alone -/
theorem seedC (g : GG) {Γ : Nat → Nat} {M : MM} (hT : HTy Yt Γ M) {c : Nat} (gc : Γ c = 1) : ∃ z, PSt (g.1, g.2.1, z) 786 [vr c] Γ M := by
  have d := cdim hT gc
  obtain ⟨z, hz⟩ := zD_of 154 (fun j => if j = 1 then vsv M c ([], 0, 2) 1 else if j = 2 then vsv M c ([], 0, 2) 0 else if j < 10 then 0 else if j < 154 then vsv M c ([(2, 2)], 0, 144) (j - 10) else 0) (fun j hj => by
    show _ ≤ (if j = 1 then vsv M c ([], 0, 2) 1 else if j = 2 then vsv M c ([], 0, 2) 0 else if j < 10 then 0 else if j < 154 then vsv M c ([(2, 2)], 0, 144) (j - 10) else 0) ∧ (if j = 1 then vsv M c ([], 0, 2) 1 else if j = 2 then vsv M c ([], 0, 2) 0 else if j < 10 then 0 else if j < 154 then vsv M c ([(2, 2)], 0, 144) (j - 10) else 0) < _
    split
    · omega
    · split
      · omega
      · split
        · omega
        · have h3 := cph hT gc (k := j - 10) (by omega)
          omega)
  have e1 : zC (g.1, g.2.1, z) = vsv M c ([], 0, 2) 1 := hz g.1 g.2.1 1 (by decide)
  have e2 : zR (g.1, g.2.1, z) = vsv M c ([], 0, 2) 0 := hz g.1 g.2.1 2 (by decide)
  refine ⟨z, gc, pic1 hT gc (by decide) (by decide), ⟨e2.symm, e1.symm⟩, ?_⟩
  show clp [(0, 144)] _ = clp [(0, 144)] _
  refine clp_eq fun r hr k h1 h2 => ?_
  cases List.mem_singleton.mp hr
  have h2 : k < 144 := h2
  have := hz g.1 g.2.1 (10 + k) (by omega)
  rw [if_neg (by omega), if_neg (by omega), if_neg (by omega), if_pos (by omega), show 10 + k - 10 = k by omega] at this
  have h3 : vsv M c ([(2, 2)], 0, 144) k = M.2.2.2.2 (wlk M c [(2, 2)]) k := cAll h2
  exact h3.symm.trans this.symm
set_option maxRecDepth 100000 in
/-- a seed that tells of a pairing and a chart -/
theorem seedP (g : GG) {Γ : Nat → Nat} {M : MM} (hT : HTy Yt Γ M) {p c : Nat} (gp : Γ p = 21) (gc : Γ c = 1) (h511 : PSt g 511 [vr p, vr c] Γ M) (h542 : PSt g 542 [vr p] Γ M) : ∃ z, PSt (g.1, g.2.1, z) 571 [vr p] Γ M ∧ PSt (g.1, g.2.1, z) 708 [] Γ M ∧ PSt (g.1, g.2.1, z) 572 [vr c] Γ M := by
  have d := cdim hT gc
  obtain ⟨-, -, -, -, ht⟩ := h511
  obtain ⟨-, -, hm⟩ := h542
  have ht : TRF (vsv M c ([], 0, 2) 0) (vsv M c ([], 0, 2) 1) (vsv M c ([(2, 2)], 0, 144)) (vsv M p ([], 0, 1) 0) (vsv M p ([(1, 22)], 0, 121)) (vsv M p ([(2, 23)], 0, 121)) := ht
  have hm : MAT (vsv M p ([], 0, 1) 0) (vsv M p ([(2, 23)], 0, 121)) (vsv M p ([(3, 24)], 0, 121)) := hm
  have fR : ∀ j, j < 121 → 0 ≤ vsv M p ([(1, 22)], 0, 121) j ∧ vsv M p ([(1, 22)], 0, 121) j ≤ 143 := fun j hj => vB hT [(1, 22)] gp (by decide) (by decide) (by decide) (r := (0, 121, 0, 143)) (by decide) (Nat.zero_le _) hj (Nat.zero_le _) hj
  have fC : ∀ j, j < 121 → -2147483648 ≤ vsv M p ([(2, 23)], 0, 121) j ∧ vsv M p ([(2, 23)], 0, 121) j ≤ 2147483647 := fun j hj => vB hT [(2, 23)] gp (by decide) (by decide) (by decide) (r := (0, 121, -2147483648, 2147483647)) (by decide) (Nat.zero_le _) hj (Nat.zero_le _) hj
  have fM : ∀ j, j < 121 → -2 ≤ vsv M p ([(3, 24)], 0, 121) j ∧ vsv M p ([(3, 24)], 0, 121) j ≤ 120 := fun j hj => vB hT [(3, 24)] gp (by decide) (by decide) (by decide) (r := (0, 121, -2, 120)) (by decide) (Nat.zero_le _) hj (Nat.zero_le _) hj
  generalize hcg : vsv M p ([(2, 23)], 0, 121) = cg at ht fC hm
  generalize hmt : vsv M p ([(3, 24)], 0, 121) = mt at fM hm
  generalize hrg : vsv M p ([(1, 22)], 0, 121) = rg at ht fR
  generalize hpa : vsv M p ([], 0, 1) 0 = K at ht hm
  have hK : 0 ≤ K ∧ K ≤ 81 := ht.1
  obtain ⟨z, hz⟩ := zD_of 400 (fun j => if j = 0 then K else if j = 1 then vsv M c ([], 0, 2) 1 else if j = 2 then vsv M c ([], 0, 2) 0 else if j < 10 then 0 else if j < 131 then rg (j - 10) else if j < 140 then 0 else if j < 261 then mt (j - 140) else if j < 270 then 0 else if j < 391 then cg (j - 270) else 0) (fun j hj => by
    show _ ≤ (if j = 0 then K else if j = 1 then vsv M c ([], 0, 2) 1 else if j = 2 then vsv M c ([], 0, 2) 0 else if j < 10 then 0 else if j < 131 then rg (j - 10) else if j < 140 then 0 else if j < 261 then mt (j - 140) else if j < 270 then 0 else if j < 391 then cg (j - 270) else 0) ∧ (if j = 0 then K else if j = 1 then vsv M c ([], 0, 2) 1 else if j = 2 then vsv M c ([], 0, 2) 0 else if j < 10 then 0 else if j < 131 then rg (j - 10) else if j < 140 then 0 else if j < 261 then mt (j - 140) else if j < 270 then 0 else if j < 391 then cg (j - 270) else 0) < _
    split
    · omega
    · split
      · omega
      · split
        · omega
        · split
          · omega
          · split
            · have := fR (j - 10) (by omega)
              omega
            · split
              · omega
              · split
                · have := fM (j - 140) (by omega)
                  omega
                · split
                  · omega
                  · split
                    · have := fC (j - 270) (by omega)
                      omega
                    · omega)
  have e0 : zK (g.1, g.2.1, z) = K := hz g.1 g.2.1 0 (by decide)
  have e1 : zC (g.1, g.2.1, z) = vsv M c ([], 0, 2) 1 := hz g.1 g.2.1 1 (by decide)
  have e2 : zR (g.1, g.2.1, z) = vsv M c ([], 0, 2) 0 := hz g.1 g.2.1 2 (by decide)
  have er : ∀ i : Nat, (i : Int) < K → zRg (g.1, g.2.1, z) i = rg i := fun i hi => by
    have := hz g.1 g.2.1 (10 + i) (by omega)
    show zD (g.1, g.2.1, z) (10 + i) = _
    rw [this, if_neg (by omega), if_neg (by omega), if_neg (by omega), if_neg (by omega), if_pos (by omega), show 10 + i - 10 = i by omega]
  have em : ∀ i : Nat, (i : Int) < K → zMt (g.1, g.2.1, z) i = mt i := fun i hi => by
    have := hz g.1 g.2.1 (140 + i) (by omega)
    show zD (g.1, g.2.1, z) (140 + i) = _
    rw [this, if_neg (by omega), if_neg (by omega), if_neg (by omega), if_neg (by omega), if_neg (by omega), if_neg (by omega), if_pos (by omega), show 140 + i - 140 = i by omega]
  have ec : ∀ i : Nat, (i : Int) < K → zCg (g.1, g.2.1, z) i = cg i := fun i hi => by
    have := hz g.1 g.2.1 (270 + i) (by omega)
    show zD (g.1, g.2.1, z) (270 + i) = _
    rw [this, if_neg (by omega), if_neg (by omega), if_neg (by omega), if_neg (by omega), if_neg (by omega), if_neg (by omega), if_neg (by omega), if_neg (by omega), if_pos (by omega), show 270 + i - 270 = i by omega]
  obtain ⟨-, ⟨b1, b2⟩, -⟩ := ht
  refine ⟨z, ⟨gp, pic1 hT gp (by decide) (by decide), ?_, ⟨fun i j hij hj => ?_, fun i hi => ?_⟩, fun i hi => ?_⟩, ⟨?_, fun i hi => ?_⟩, ⟨gc, pic1 hT gc (by decide) (by decide), e2.symm, e1.symm⟩⟩
  · exact hpa.trans e0.symm
  · rw [e0] at hj
    rw [er i (by omega), er j hj]
    exact b2 i j hij hj
  · rw [e0] at hi
    rw [ec i hi]
    have q := b1 i hi
    have := crl_bd (vsv M c ([], 0, 2) 1).toNat (vsv M c ([(2, 2)], 0, 144)) (rg i).toNat
    omega
  · rw [e0] at hi
    rw [er i hi, em i hi, ec i hi]
    exact ⟨congrFun hrg i, congrFun hmt i, congrFun hcg i⟩
  · show zK _ ≤ 81
    omega
  · rw [e0] at hi ⊢
    rcases hm i hi with q | ⟨m, m1, m2, m3, m4, m5⟩
    · exact Or.inl ((em i hi).trans q)
    · exact Or.inr ⟨m, m1, m2, (em i hi).trans m3, (em m m1).trans m4, by rw [ec m m1, ec i hi]; exact m5⟩
/-! the log's length by numbers that the contract names -/
theorem PM_y {os : List (Nat × VSP)} {Q : GG → List (Nat → Int) → List MV → Prop} (hQ : ∀ (g g2 : GG) fs l, Q g fs l → Q g2 fs l) (g : GG) (n : Nat) (l : List MV) (Γ : Nat → Nat) (M : MM) : PM os Q g l Γ M ↔ PM os Q (g.1, n, g.2.2) l Γ M := ⟨pmR_z (hQ _ _) os [] l, pmR_z (hQ _ _) os [] l⟩
theorem y_fid {id : Nat} (h : 1000 ≤ id) (g : GG) (n : Nat) (l : List MV) (Γ : Nat → Nat) (M : MM) : PSt g id l Γ M ↔ PSt (g.1, n, g.2.2) id l Γ M := by
  unfold PSt
  rw [FL_lt h]
def RESq (PS : PST) (R : Nat × Int × Int) (len : Nat) (P : List PFE) (T F : CND) (ρ : Nat → Int) (α Γ : Nat → Nat) (M : MM) (r : Option MV) : Prop := match R.1 with
  | 0 => r = none ∧ PFs PS ρ α Γ M P
  | 1 => ∃ x, r = some (vi x) ∧ R.2.1 ≤ x ∧ x ≤ R.2.2 ∧ PFs PS (upI ρ len x) α Γ M P
  | 2 => (r = some (vi 1) ∧ CNDok PS ρ α Γ M T) ∨ (r = some (vi 0) ∧ CNDok PS ρ α Γ M F)
  | _ => ∃ x, r = some (vl x)
theorem RESq_imp {PS PS2 : PST} {R : Nat × Int × Int} {len : Nat} {P P2 : List PFE} {T F : List (Nat × Int × Int)} {T1 T2 F1 F2 : List PFE} {ρ : Nat → Int} {α Γ : Nat → Nat} {M : MM} {r : Option MV} (h0 : R.1 = 1 ∨ R.1 = 2)
    (h1 : ∀ x, R.2.1 ≤ x → x ≤ R.2.2 → PFs PS (upI ρ len x) α Γ M P → PFs PS2 (upI ρ len x) α Γ M P2) (h2 : PFs PS ρ α Γ M T1 → PFs PS2 ρ α Γ M T2) (h3 : PFs PS ρ α Γ M F1 → PFs PS2 ρ α Γ M F2)
    (h : RESq PS R len P (T, T1) (F, F1) ρ α Γ M r) : RESq PS2 R len P2 (T, T2) (F, F2) ρ α Γ M r := by
  obtain ⟨k, lo, hi⟩ := R
  have h0 : k = 1 ∨ k = 2 := h0
  rcases h0 with rfl | rfl
  · obtain ⟨x, a, b, c, q⟩ := (show ∃ x, r = some (vi x) ∧ lo ≤ x ∧ x ≤ hi ∧ PFs PS (upI ρ len x) α Γ M P from h)
    exact ⟨x, a, b, c, h1 x b c q⟩
  · rcases (show (r = some (vi 1) ∧ CNDok PS ρ α Γ M (T, T1)) ∨ (r = some (vi 0) ∧ CNDok PS ρ α Γ M (F, F1)) from h) with ⟨a, b, c⟩ | ⟨a, b, c⟩
    · exact Or.inl ⟨a, b, h2 c⟩
    · exact Or.inr ⟨a, b, h3 c⟩
theorem kcloseP {t1 t2 : KT} (ht : t1 = (t2.1, t2.2.1, t2.2.2.1, kPre t1, kRes t2, kEff t2, kPost t1, ((kT t2).1, (kT t1).2), ((kF t2).1, (kF t1).2)))
    (h0 : (kRes t2).1 = 1 ∨ (kRes t2).1 = 2)
    (hx : ∀ (g : GG) (ρ : Nat → Int) (α Γ : Nat → Nat) (M : MM) (as : List MV), HTy Yt Γ M → BO ρ (kB t2) → ARs ρ α Γ (kArgs t2) as → PFs (PSt g) ρ α Γ M (kPre t2) → ∃ n : Nat, PFs (PSt (g.1, n, g.2.2)) ρ α Γ M (kPre t1) ∧
      ∀ (Γ2 : Nat → Nat) (M2 : MM), HTy Yt Γ2 M2 → GEX M.1 Γ Γ2 → (∀ x, (kRes t2).2.1 ≤ x → x ≤ (kRes t2).2.2 → PFs (PSt (g.1, n, g.2.2)) (upI ρ (kArgs t2).length x) α Γ2 M2 (kPost t1) → PFs (PSt g) (upI ρ (kArgs t2).length x) α Γ2 M2 (kPost t2)) ∧
        (PFs (PSt (g.1, n, g.2.2)) ρ α Γ2 M2 (kT t1).2 → PFs (PSt g) ρ α Γ2 M2 (kT t2).2) ∧ (PFs (PSt (g.1, n, g.2.2)) ρ α Γ2 M2 (kF t1).2 → PFs (PSt g) ρ α Γ2 M2 (kF t2).2))
    (hk : ∀ g, KOK Yt (PSt g) t1) (g : GG) : KOK Yt (PSt g) t2 := by
  intro d ρ α Γ M as gs hg hd hT hB hA hP
  obtain ⟨n, hf, hq⟩ := hx g ρ α Γ M (as ++ gs) hT hB hA hP
  have hk := hk (g.1, n, g.2.2)
  generalize kPre t1 = P1 at ht hf
  generalize kPost t1 = P2 at ht hq
  generalize (kT t1).2 = P3 at ht hq
  generalize (kF t1).2 = P4 at ht hq
  subst ht
  have := hk d ρ α Γ M as gs hg hd hT hB hA hf
  refine this.imp fun r M2 q => ?_
  obtain ⟨Γ2, a, b, c, e, f2, w⟩ := q
  obtain ⟨q1, q2, q3⟩ := hq Γ2 M2 a c
  exact ⟨Γ2, a, b, c, e, f2, RESq_imp (T := (kT t2).1) (F := (kF t2).1) h0 q1 q2 q3 w⟩
theorem lg_bd {Γ : Nat → Nat} {M : MM} (hT : HTy Yt Γ M) {a : Nat} (ga : Γ a = 54) : 0 ≤ vsv M a ([(3, 17)], 0, 1) 0 := (vB hT [(3, 17)] ga (by decide) (by decide) (by decide) (r := (0, 1, 0, 1000000)) (by decide) (Nat.le_refl _) (by decide) (by decide) (by decide)).1
set_option maxRecDepth 100000 in
theorem lg58 {g : GG} {Γ : Nat → Nat} {M : MM} (hT : HTy Yt Γ M) {a : Nat} (ga : Γ a = 54) {n : Nat} (hn : (n : Int) = vsv M a ([(3, 17)], 0, 1) 0) : PSt (g.1, n, g.2.2) 58 [vr a, vi 0] Γ M := by
  obtain ⟨b, h1, h2⟩ := tyR hT ga (by decide) (j := 3) (τ2 := 17) (by decide)
  refine ⟨ga, b, h1, h2, ?_⟩
  show M.2.2.2.2 b 0 ≤ (n : Int) + 0
  rw [← (vs1 h1 (Nat.le_refl _) (by decide) : vsv M a ([(3, 17)], 0, 1) 0 = M.2.2.2.2 b 0)]
  omega
set_option maxRecDepth 100000 in
theorem lg992 {g : GG} {Γ : Nat → Nat} {M : MM} (hT : HTy Yt Γ M) {a : Nat} {n : Nat} {k m z w : Int} (h : PSt (g.1, n, g.2.2) 58 [vr a, vi 150] Γ M) (hn : (n : Int) ≤ 50000 * k + 200 * m + 200 * z) (hw : 1 ≤ w) : PSt g 992 [vr a, vi k, vi m, vi z, vi w] Γ M := by
  obtain ⟨ga, b, h1, h2, h3⟩ := h
  refine ⟨ga, pic1 hT ga (by decide) (by decide), ?_⟩
  show vsv M a ([(3, 17)], 0, 1) 0 ≤ 50000 * k + 200 * m + 200 * z + 200 * w
  rw [(vs1 h1 (Nat.le_refl _) (by decide) : vsv M a ([(3, 17)], 0, 1) 0 = M.2.2.2.2 b 0)]
  have h3 : M.2.2.2.2 b 0 ≤ (n : Int) + 150 := h3
  omega
set_option maxRecDepth 100000 in
/-- a seed that tells of the heights that are -/
theorem seedH (g : GG) {Γ : Nat → Nat} {M : MM} (hT : HTy Yt Γ M) {a : Nat} (ga : Γ a = 54) : ∃ z, PSt (g.1, g.2.1, z) 762 [vr a] Γ M := by
  obtain ⟨z, hz⟩ := zD_of 460 (fun j => if j < 160 then 0 else if j < 304 then vsv M a ([(0, 38), (2, 10), (4, 11)], 0, 144) (j - 160) else 0) (fun j hj => by
    show _ ≤ (if j < 160 then 0 else if j < 304 then vsv M a ([(0, 38), (2, 10), (4, 11)], 0, 144) (j - 160) else 0) ∧ (if j < 160 then 0 else if j < 304 then vsv M a ([(0, 38), (2, 10), (4, 11)], 0, 144) (j - 160) else 0) < _
    split
    · omega
    · split
      · have h3 : -2147483648 ≤ vsv M a ([(0, 38), (2, 10), (4, 11)], 0, 144) (j - 160) ∧ vsv M a ([(0, 38), (2, 10), (4, 11)], 0, 144) (j - 160) ≤ 2147483647 := vB hT [(0, 38), (2, 10), (4, 11)] ga (by decide) (by decide) (by decide) (r := (0, 144, -2147483648, 2147483647)) (by decide) (k := j - 160) (lo := 0) (hi := 144) (Nat.zero_le _) (by show j - 160 < 144; omega) (Nat.zero_le _) (by omega)
        omega
      · omega)
  refine ⟨z, ga, pic1 hT ga (by decide) (by decide), fun j hj => ?_⟩
  have := hz g.1 g.2.1 (160 + j) (by omega)
  show zD (g.1, g.2.1, z) (160 + j) = _
  rw [this, if_neg (by omega), if_pos (by omega), show 160 + j - 160 = j by omega]
  rfl
