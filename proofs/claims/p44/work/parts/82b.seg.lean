/-! THE CHECKER: a walk from an index on, to where another one goes on -/
section
variable {Y : Nat → TYE} {PS : PST} {dep : Nat → List EF} {t : KT}
/-- from the index n0 on, with these locals -/
def SEGOK (Y : Nat → TYE) (PS : PST) (t : KT) (dk n0 : Nat) (ls0 : List AV) : Prop := ∀ (d : Nat) (ρ : Nat → Int) (α Γ : Nat → Nat) (M : MM) (ls : List MV), dk ≤ d → HTy Y Γ M → BO ρ (kB t) → ARs ρ α Γ ls0 ls → PFs PS ρ α Γ M (kPre t) → ∀ e r, (ops (kM t)).drop n0 = e :: r → Wm d (kM t) e.1 ls [] M (KPost Y PS t ρ α Γ M)
noncomputable def verN (Y : Nat → TYE) (dep : Nat → List EF) (t : KT) (dk : Nat) (AN : Nat → KT) (LN : Nat → List (KT × List (List Nat))) (EP : EPT) (cuts : List CUT) (f n0 : Nat) (ls0 : List AV) : Bool :=
  (idsK t && Nat.ble (Nat.succ (kM t)) nT) && (cuts.all (cutRun Y dep t dk AN LN EP cuts f) && (hasI (kM t) n0 && seE Y (gDep dep) t dk AN LN (kM t) (fun n S => cond (Nat.beq n n0 && Nat.beq S.2.2.2.1 (kArgs t).length && (S.2.2.2.2.1.isEmpty && Nat.beq S.2.2.2.2.2.1.length ((kPre t).length + 1))) none (accE (kM t) EP cuts n S)) f n0 (ls0, [], kB t, (kArgs t).length, [], (0, unGs (kArgs t)) :: kPre t, 0, 0)))
theorem verN_ok (hPS : PSok Y PS dep) (hBR : PSax Y PS) {dk : Nat} {AN : Nat → KT} (hAN : ∀ n, KOK Y PS (AN n)) {LN : Nat → List (KT × List (List Nat))} (hLN : ∀ n, ∀ p ∈ LN n, LOK Y PS p.1) {EP : EPT} (hEP : EPok Y PS t dk EP) {cuts : List CUT} {f n0 : Nat} {ls0 : List AV} (h : verN Y dep t dk AN LN EP cuts f n0 ls0 = true) : SEGOK Y PS t dk n0 ls0 := by
  obtain ⟨h1, h2⟩ := bb2 h
  obtain ⟨hi, h4⟩ := bb2 h1
  obtain ⟨h2, h5⟩ := bb2 h2
  obtain ⟨-, h7⟩ := bb2 h5
  have hk : kM t < nT := ble_iff.mp h4
  intro d ρ α Γ M ls hdk hT hB hA hP e r hq
  have hcuts := cuts_ok (Y := Y) (PS := PS) (dep := dep) (Γ0 := Γ) (M0 := M) (d := d) (t := t) (ρ0 := ρ) (α0 := α) hPS hBR hdk hAN hLN hi rfl hk hEP (cuts := cuts) (f := f) (by rw [List.all_eq_true] at h2; exact h2)
  have hgd := seE_ok (Γ0 := Γ) (M0 := M) (d := d) (g0 := (kArgs t).map (valO ρ α)) (g1 := []) hPS hBR hdk hAN hLN hi rfl hk (acc := fun n S => cond (Nat.beq n n0 && Nat.beq S.2.2.2.1 (kArgs t).length && (S.2.2.2.2.1.isEmpty && Nat.beq S.2.2.2.2.2.1.length ((kPre t).length + 1))) none (accE (kM t) EP cuts n S)) (by
    intro n S hacc
    have hacc : (cond (Nat.beq n n0 && Nat.beq S.2.2.2.1 (kArgs t).length && (S.2.2.2.2.1.isEmpty && Nat.beq S.2.2.2.2.2.1.length ((kPre t).length + 1))) none (accE (kM t) EP cuts n S)) = some true := hacc
    cases hc : (Nat.beq n n0 && Nat.beq S.2.2.2.1 (kArgs t).length && (S.2.2.2.2.1.isEmpty && Nat.beq S.2.2.2.2.2.1.length ((kPre t).length + 1))) with
    | true => rw [hc, cond_true] at hacc; cases hacc
    | false =>
    rw [hc, cond_false] at hacc
    unfold accE at hacc
    cases hep : EP n with
    | some fe =>
      rw [hep] at hacc
      exact hEP n fe hep d hdk _ _ ρ α Γ M S (Option.some.inj hacc)
    | none =>
    rw [hep] at hacc
    have hacc : (match cutAt cuts n with
      | some A1 => some (hasI (kM t) n && accA A1 S)
      | none => none) = some true := hacc
    split at hacc
    · rename_i A1 hA0
      obtain ⟨hA1, hn⟩ := cutAt_ok hA0
      obtain ⟨b1, b2⟩ := bb2 (Option.some.inj hacc)
      obtain ⟨e1, r1, hq1⟩ := hasI_ok b1
      refine ⟨e1, r1, hq1, fun ρ2 α2 Γ2 M2 ls3 st3 rel3 => ?_⟩
      obtain ⟨rfl, ρ4, α4, rel4⟩ := accA_ok (gPSw hBR.2.2.1 _ _) (g2 := []) b2 rel3
      subst hn
      exact hcuts _ A1 hA1 ρ4 α4 Γ2 M2 ls3 _ rel4 rfl e1 r1 hq1
    · cases hacc) f n0 _ h7
  obtain ⟨e2, r2, hq2, hw⟩ := hgd
  rw [hq] at hq2
  cases hq2
  refine hw ρ α Γ M ls [] ⟨hT, hB, hA, trivial, fun f hf => absurd hf List.not_mem_nil, fun p hp => ?_, ⟨FRM.refl _ _ _, fun _ _ => rfl, Nat.le_refl _, Nat.le_refl _⟩⟩
  rcases List.mem_cons.mp hp with rfl | hp
  · exact valO_unGs _ _ _
  · exact (gPFs (bb2 (bb2 hi).1).1).mpr hP p hp
/-- where the next walk takes over: its state told as a cut -/
def segE (A : CUT) (n0 : Nat) : EPT := fun n => cond (Nat.beq n n0) (some (accA A)) none
theorem segE_ok (hBR : PSax Y PS) {t2 : KT} {dk n0 : Nat} {A : CUT} {ls0 : List AV} (hN : SEGOK Y PS t2 dk n0 ls0) (hh : hasI (kM t) n0 = true) (hm : kM t2 = kM t) (hA : A.2.2.2.2.1 = ls0) (hB : A.2.2.2.1 = kB t2) (hP : A.2.2.2.2.2.1 = kPre t2) (hid : ids2 (kPre t2) = true) (hE : kEff t2 = kEff t) (hEE : efsIn (kEff t2) (kEff t) = true) (hao : A.2.2.2.2.2.2.1.1 + kAo t2 ≤ kAo t) (has : A.2.2.2.2.2.2.1.2 + kAs t2 ≤ kAs t)
    (r1 : (kRes t).1 = 2) (r2 : (kRes t2).1 = 2) (c1 : kT t = ([], [])) (c2 : ∃ i, kF t2 = ([(i, 1, 0)], [])) : EPok Y PS t dk (segE A n0) := by
  intro n f hf d hd g0 g1 ρ0 α0 Γ0 M0 S hS
  unfold segE at hf
  cases hb : Nat.beq n n0 with
  | false => rw [hb] at hf; cases hf
  | true =>
    rw [hb] at hf
    cases hf
    have := beq_iff.mp hb
    subst this
    obtain ⟨e, r, hq⟩ := hasI_ok hh
    refine ⟨e, r, hq, fun ρ α Γ M ls2 st2 rel => ?_⟩
    obtain ⟨rfl, ρ2, α2, rel2⟩ := accA_ok (gPSw hBR.2.2.1 _ _) (g2 := []) hS rel
    obtain ⟨a1, a2, a3, -, -, a6, b1, b2, b3, b4⟩ := rel2
    have a2 : BO ρ2 A.2.2.2.1 := a2
    have a3 : ARs ρ2 α2 Γ A.2.2.2.2.1 ls2 := a3
    have a6 : PFs (gPS g0 [] PS) ρ2 α2 Γ M A.2.2.2.2.2.1 := a6
    rw [hB] at a2
    rw [hA] at a3
    rw [hP] at a6
    have w := hN d ρ2 α2 Γ M ls2 hd a1 a2 a3 ((gPFs hid).mp a6) e r (by rw [hm]; exact hq)
    rw [hm] at w
    refine w.imp fun rr M2 q => ?_
    obtain ⟨Γ2, q1, q2, q3, q4, q5, q6⟩ := q
    refine ⟨Γ2, q1, FRM.trans b1 b2 q2 hEE, fun a ha => (q3 a (Nat.lt_of_lt_of_le ha b1.1)).trans (b2 a ha), ?_, ?_, ?_⟩
    · have b3 : M.1 ≤ M0.1 + A.2.2.2.2.2.2.1.1 := b3
      omega
    · have b4 : M.2.1 ≤ M0.2.1 + A.2.2.2.2.2.2.1.2 := b4
      omega
    · unfold RESok at q6 ⊢
      rw [r2] at q6
      rw [r1]
      obtain ⟨i, c2⟩ := c2
      rcases (show (rr = some (vi 1) ∧ CNDok PS ρ2 α2 Γ2 M2 (kT t2)) ∨ (rr = some (vi 0) ∧ CNDok PS ρ2 α2 Γ2 M2 (kF t2)) from q6) with ⟨h1, -⟩ | ⟨-, h2⟩
      · exact Or.inl ⟨h1, by rw [c1]; exact ⟨fun b hb => absurd hb List.not_mem_nil, fun p hp => absurd hp List.not_mem_nil⟩⟩
      · rw [c2] at h2
        have h3 : (1 : Int) ≤ ρ2 i ∧ ρ2 i ≤ 0 := h2.1 _ List.mem_cons_self
        omega
end
