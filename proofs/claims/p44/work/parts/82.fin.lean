/-! THE CHECKER: a contract that it takes holds -/
theorem cB_ok {C : BC} {ls : List AV} {ρ : Nat → Int} {α Γ : Nat → Nat} {ls2 : List MV} (hC : BO ρ C) (r : ARs ρ α Γ ls ls2) {c : MC} (h : cB C ls c = true) : cval c (ls2.getD c.2.1 vn) < MB := by
  unfold cB at h
  unfold cval
  split at h
  · rw [ltB_iff] at h
    show c.2.2.toNat < 10000000000
    omega
  · obtain ⟨h1, h2⟩ := bb2 h
    rw [ltB_iff] at h2
    have := ivl_ok hC h1
    rw [getD_int r h1]
    show (c.2.2 - iv ρ (ls.getD c.2.1 aD)).toNat < 10000000000
    omega
  · obtain ⟨h1, h2⟩ := bb2 h
    rw [ltB_iff] at h2
    have := ivl_ok hC h1
    rw [getD_int r h1]
    show (iv ρ (ls.getD c.2.1 aD) - c.2.2).toNat < 10000000000
    omega
theorem mv_eq {ls : List AV} {ρ : Nat → Int} {α Γ : Nat → Nat} {ls2 : List MV} (r : ARs ρ α Γ ls ls2) : ∀ l : List MC, (l.map fun c => cond (Nat.beq c.1 0) (aC 0) (ls.getD c.2.1 aD)).all isI = true → List.zipWith cval l ((l.map fun c => cond (Nat.beq c.1 0) (aC 0) (ls.getD c.2.1 aD)).map (valO ρ α)) = l.map fun c => cval c (ls2.getD c.2.1 vn)
  | [], _ => rfl
  | c :: l, h => by
    obtain ⟨h1, h2⟩ := bb2 (show (isI (cond (Nat.beq c.1 0) (aC 0) (ls.getD c.2.1 aD)) && (l.map fun c => cond (Nat.beq c.1 0) (aC 0) (ls.getD c.2.1 aD)).all isI) = true from h)
    have ih := mv_eq r l h2
    show cval c (valO ρ α (cond (Nat.beq c.1 0) (aC 0) (ls.getD c.2.1 aD))) :: _ = cval c (ls2.getD c.2.1 vn) :: _
    congr 1
    cases h0 : Nat.beq c.1 0 with
    | true =>
      unfold cval
      rw [beq_iff.mp h0]
      rfl
    | false =>
      rw [h0, cond_false] at h1
      rw [cond_false, getD_int r h1, valO_int h1]
def decB (A0 A1 : CUT) (S : SE) : Bool := match fdG1 S.2.2.2.2.2.1 with
  | some gl => (Nat.beq (cMs A1).length (cMs A0).length && Nat.beq gl.length (cMs A0).length) && ((cMs A1).all (cB S.2.2.1 S.1) && decL S.2.2.2.2.2.1 S.2.2.1 S.1 (cMs A0) gl (cMs A1))
  | none => false
/-- where a walk of ours goes on -/
abbrev EPT : Type := Nat → Option (SE → Bool)
def noEP : EPT := fun _ => none
noncomputable def accE (k : Nat) (EP : EPT) (cuts : List CUT) (n : Nat) (S : SE) : Option Bool := match EP n with
  | some f => some (f S)
  | none => (match cutAt cuts n with
    | some A => some (hasI k n && accA A S)
    | none => none)
noncomputable def accM (k : Nat) (EP : EPT) (cuts : List CUT) (A0 : CUT) (n : Nat) (S : SE) : Option Bool := match EP n with
  | some f => some (f S)
  | none => (match cutAt cuts n with
    | some A => some (hasI k n && (accA A S && decB A0 A S))
    | none => none)
def cutSt1 (A : CUT) : SE := (A.2.2.2.2.1, [], A.2.2.2.1, A.2.2.1.length, mfA A, (1, mvA A) :: A.2.2.2.2.2.1, A.2.2.2.2.2.2.1.1, A.2.2.2.2.2.2.1.2)
noncomputable def cutRun (Y : Nat → TYE) (dep : Nat → List EF) (t : KT) (dk : Nat) (AN : Nat → KT) (LN : Nat → List (KT × List (List Nat))) (EP : EPT) (cuts : List CUT) (f : Nat) (A : CUT) : Bool := (okM A && A.2.2.2.2.2.1.all fun p => not (Nat.beq p.1 1)) && (match (ops (kM t)).drop A.1 with
  | [] => false
  | e :: _ => e_lems (LN A.1) (stepE (kM t) Y (gDep dep) t dk AN (seE Y (gDep dep) t dk AN LN (kM t) (accM (kM t) EP cuts A) f) A.1 e) (cutSt1 A))
def fltA : List AV → List AV
  | [] => []
  | v :: r => cond (isL v) (v :: aD :: fltA r) (v :: fltA r)
noncomputable def verE (Y : Nat → TYE) (dep : Nat → List EF) (t : KT) (dk : Nat) (AN : Nat → KT) (LN : Nat → List (KT × List (List Nat))) (EP : EPT) (cuts : List CUT) (f : Nat) : Bool :=
  ((idsK t && kaB 0 (kArgs t)) && (Nat.beq (kD t) (dk + 1) && Nat.ble (Nat.succ (kM t)) nT)) && ((cuts.all (cutRun Y dep t dk AN LN EP cuts f)) && (match bget 9 mtT (kM t) with
    | some row => Nat.ble (fltA (rArgs t)).length row.2.1 && (hasI (kM t) 0 && seE Y (gDep dep) t dk AN LN (kM t) (accE (kM t) EP cuts) f 0 (fltA (rArgs t) ++ List.replicate (row.2.1 - (fltA (rArgs t)).length) aD, [], kB t, (kArgs t).length, [], (0, unGs (kArgs t)) :: kPre t, 0, 0))
    | none => false))
noncomputable def verK (Y : Nat → TYE) (dep : Nat → List EF) (t : KT) (dk : Nat) (AN : Nat → KT) (LN : Nat → List (KT × List (List Nat))) (cuts : List CUT) (f : Nat) : Bool := verE Y dep t dk AN LN noEP cuts f
def EPok (Y : Nat → TYE) (PS : PST) (t : KT) (dk : Nat) (EP : EPT) : Prop := ∀ (n : Nat) (f : SE → Bool), EP n = some f → ∀ (d : Nat), dk ≤ d → ∀ (g0 g1 : List MV) (ρ0 : Nat → Int) (α0 Γ0 : Nat → Nat) (M0 : MM) (S : SE), f S = true → GD Y (gPS g0 g1 PS) (kEff t) Γ0 M0 d (kM t) (KPost Y PS t ρ0 α0 Γ0 M0) n S
section
variable {Y : Nat → TYE} {PS : PST} {dep : Nat → List EF} {Γ0 : Nat → Nat} {M0 : MM} {d : Nat}
variable {t : KT} {g0 : List MV} {ρ0 : Nat → Int} {α0 : Nat → Nat}
theorem cutAt_ok {cuts : List CUT} {n : Nat} {A : CUT} (h : cutAt cuts n = some A) : A ∈ cuts ∧ A.1 = n := by
  unfold cutAt at h
  have h2 : Nat.beq A.1 n = true := List.find?_some (p := fun A : CUT => Nat.beq A.1 n) h
  exact ⟨List.mem_of_find?_eq_some h, beq_iff.mp h2⟩
theorem hasI_ok {k n : Nat} (h : hasI k n = true) : ∃ e r, (ops k).drop n = e :: r := by
  unfold hasI at h
  cases hq : (ops k).drop n with
  | nil => rw [hq] at h; cases (show false = true from h)
  | cons e r => exact ⟨e, r, rfl⟩
theorem cuts_ok (hPS : PSok Y PS dep) (hBR : PSax Y PS) {dk : Nat} (hdk : dk ≤ d) {AN : Nat → KT} (hAN : ∀ n, KOK Y PS (AN n)) {LN : Nat → List (KT × List (List Nat))} (hLN : ∀ n, ∀ p ∈ LN n, LOK Y PS p.1) (hi : idsK t = true) (ha : g0 = (kArgs t).map (valO ρ0 α0)) (hk : kM t < nT) {EP : EPT} (hEP : EPok Y PS t dk EP) {cuts : List CUT} {f : Nat} (hr : ∀ A ∈ cuts, cutRun Y dep t dk AN LN EP cuts f A = true) : ∀ (m : Nat) (A : CUT), A ∈ cuts → ∀ ρ α Γ M ls2 g, REL Y (gPS g0 g PS) (kEff t) Γ0 M0 ρ α Γ M (cSt A) ls2 [] → numL (mV A ls2) = m → ∀ e r, (ops (kM t)).drop A.1 = e :: r → Wm d (kM t) e.1 ls2 [] M (KPost Y PS t ρ0 α0 Γ0 M0) := by
  intro m
  induction m using Nat.strongRecOn with
  | _ m ih =>
    intro A hA ρ α Γ M ls2 g rel hm e r hq
    have hrun := hr A hA
    unfold cutRun at hrun
    obtain ⟨h1, h2⟩ := bb2 hrun
    obtain ⟨h1, h3⟩ := bb2 h1
    rw [hq] at h2
    have rel2 : REL Y (gPS g0 ((mvA A).map (valO ρ α)) PS) (kEff t) Γ0 M0 ρ α Γ M (cutSt1 A) ls2 [] := by
      refine ⟨rel.1, rel.2.1, rel.2.2.1, trivial, rel.2.2.2.2.1, fun p hp => ?_, rel.2.2.2.2.2.2⟩
      rcases List.mem_cons.mp hp with rfl | hp
      · rfl
      · have q := rel.2.2.2.2.2.1 p hp
        rw [List.all_eq_true] at h3
        have hp1 := h3 p hp
        obtain ⟨id, l⟩ := p
        match id, q, hp1 with
        | 0, q, _ => exact q
        | 1, _, hp1 => cases (show false = true from hp1)
        | id + 2, q, _ => exact q
    refine stepG hPS hBR hdk hAN hLN hi ha hk (seE_ok hPS hBR hdk hAN hLN hi ha hk ?_ f) hq h2 ρ α Γ M ls2 [] rel2
    intro n S hacc
    unfold accM at hacc
    cases hep : EP n with
    | some fe =>
      rw [hep] at hacc
      exact hEP n fe hep d hdk g0 _ ρ0 α0 Γ0 M0 S (Option.some.inj hacc)
    | none =>
    rw [hep] at hacc
    have hacc : (match cutAt cuts n with
      | some A1 => some (hasI (kM t) n && (accA A1 S && decB A A1 S))
      | none => none) = some true := hacc
    split at hacc
    · rename_i A1 hA0
      obtain ⟨hA1, hn⟩ := cutAt_ok hA0
      obtain ⟨b1, b2⟩ := bb2 (Option.some.inj hacc)
      obtain ⟨b2, b3⟩ := bb2 b2
      obtain ⟨e1, r1, hq1⟩ := hasI_ok b1
      refine ⟨e1, r1, hq1, fun ρ2 α2 Γ2 M2 ls3 st3 rel3 => ?_⟩
      obtain ⟨rfl, ρ4, α4, rel4⟩ := accA_ok (gPSw hBR.2.2.1 _ _) (g2 := (mvA A).map (valO ρ α)) b2 rel3
      subst hn
      refine ih (numL (mV A1 ls3)) ?_ A1 hA1 ρ4 α4 Γ2 M2 ls3 _ rel4 rfl e1 r1 hq1
      rw [← hm]
      unfold decB at b3
      split at b3
      · rename_i gl hgl
        obtain ⟨c1, c2⟩ := bb2 b3
        obtain ⟨c1, c3⟩ := bb2 c1
        obtain ⟨c2, c4⟩ := bb2 c2
        have hg : gl.map (valO ρ2 α2) = (mvA A).map (valO ρ α) := by
          unfold fdG1 at hgl
          split at hgl
          · rename_i p hp
            cases hgl
            have hm1 := List.mem_of_find?_eq_some hp
            have hb1 : Nat.beq p.1 1 = true := List.find?_some (p := fun p : PFE => Nat.beq p.1 1) hp
            have q := rel3.2.2.2.2.2.1 p hm1
            rw [beq_iff.mp hb1] at q
            exact q
          · cases hgl
        have hlex := decL_ok (PS := gPS _ _ _) (fun x y Γ M q => hBR.2.2.2.2.2.1.2.2 x y Γ M q) rel3.2.2.2.2.2.1 rel3.2.1 rel3.2.2.1 (cMs A) gl (cMs A1) c4
        rw [hg] at hlex
        have hz : List.zipWith cval (cMs A) ((mvA A).map (valO ρ α)) = mV A ls2 := mv_eq rel.2.2.1 (cMs A) h1
        rw [hz] at hlex
        refine lexD_lt hlex ?_ ?_
        · unfold mV
          rw [List.length_map, List.length_map]
          exact beq_iff.mp c1
        · intro x hx
          obtain ⟨c, hc, rfl⟩ := List.mem_map.mp hx
          rw [List.all_eq_true] at c2
          exact cB_ok rel3.2.1 rel3.2.2.1 (c2 c hc)
      · cases b3
    · cases hacc
theorem flt_ok {ρ : Nat → Int} {α Γ : Nat → Nat} : ∀ {ka : List AV} {as : List MV} {i : Nat}, kaB i ka = true → ARs ρ α Γ ka as → ARs ρ α Γ (fltA ka) (flt as)
  | [], [], _, _, _ => trivial
  | [], _ :: _, _, _, h => h.elim
  | _ :: _, [], _, _, h => h.elim
  | v :: ka, m :: as, i, hk, h => by
    have hv := kaB_at (j := 0) hk rfl
    have ih := flt_ok (i := i + 1) (bb2 hk).2 h.2
    unfold fltA
    rcases hv with hv | ⟨hv, -, -⟩ | ⟨hv, -⟩
    · have hl : isL v = true := beq_iff.mpr hv
      obtain ⟨x, rfl, hx⟩ := h.1.lng hl
      rw [hl, cond_true]
      exact ⟨h.1, trivial, ih⟩
    · have hl : isL v = false := by unfold isL; rw [hv]; rfl
      rw [hl, cond_false]
      have hI : isI v = true := by unfold isI; rw [hv]; rfl
      have := h.1.int hI
      subst this
      exact ⟨h.1, ih⟩
    · have hl : isL v = false := by unfold isL; rw [hv]; rfl
      rw [hl, cond_false]
      obtain ⟨rfl, h1, h2⟩ := h.1.ref hv
      exact ⟨h.1, ih⟩
theorem ARs_rep {ρ : Nat → Int} {α Γ : Nat → Nat} : ∀ n : Nat, ARs ρ α Γ (List.replicate n aD) (List.replicate n vn)
  | 0 => trivial
  | n + 1 => ⟨trivial, ARs_rep n⟩
theorem kaB_take : ∀ {as : List AV} {i : Nat} (m : Nat), kaB i as = true → kaB i (as.take m) = true
  | [], _, m, _ => by rw [List.take_nil]; rfl
  | _ :: _, _, 0, _ => rfl
  | a :: as, i, m + 1, h => by
    obtain ⟨h1, h2⟩ := bb2 (show ((Nat.beq a.1 4 || ((Nat.beq a.1 1 && Nat.beq a.2.1 i) && eqB a.2.2.2 0) || (Nat.beq a.1 2 && Nat.beq a.2.1 i)) && kaB (i + 1) as) = true from h)
    show ((Nat.beq a.1 4 || ((Nat.beq a.1 1 && Nat.beq a.2.1 i) && eqB a.2.2.2 0) || (Nat.beq a.1 2 && Nat.beq a.2.1 i)) && kaB (i + 1) (as.take m)) = true
    rw [h1, kaB_take m h2]
    rfl
theorem rArgs_ok {t : KT} {ρ : Nat → Int} {α Γ : Nat → Nat} {as gs : List MV} (hg : gs.length = gN t) (hk : kaB 0 (kArgs t) = true) (hA : ARs ρ α Γ (kArgs t) (as ++ gs)) : kaB 0 (rArgs t) = true ∧ ARs ρ α Γ (rArgs t) as := by
  refine ⟨kaB_take _ hk, ?_⟩
  have hl := hA.len
  rw [List.length_append, hg] at hl
  rw [← List.take_append_drop ((kArgs t).length - gN t) (kArgs t)] at hA
  obtain ⟨m1, m2, e, h1, -⟩ := ARs.split _ hA
  have h2 := h1.len
  rw [List.length_take] at h2
  have h3 := List.append_inj e (by omega)
  rw [h3.1]
  exact h1
theorem verE_ok (hPS : PSok Y PS dep) (hBR : PSax Y PS) {dk : Nat} {AN : Nat → KT} (hAN : ∀ n, KOK Y PS (AN n)) {LN : Nat → List (KT × List (List Nat))} (hLN : ∀ n, ∀ p ∈ LN n, LOK Y PS p.1) {EP : EPT} (hEP : EPok Y PS t dk EP) {cuts : List CUT} {f : Nat} (h : verE Y dep t dk AN LN EP cuts f = true) : KOK Y PS t := by
  obtain ⟨h1, h2⟩ := bb2 h
  obtain ⟨h1, h3⟩ := bb2 h1
  obtain ⟨hi, hka⟩ := bb2 h1
  obtain ⟨h3, h4⟩ := bb2 h3
  obtain ⟨h2, h5⟩ := bb2 h2
  have hD := beq_iff.mp h3
  have hk : kM t < nT := ble_iff.mp h4
  intro d ρ α Γ M as gs hgn hd hT hB hA hP
  obtain ⟨hka, hA⟩ := rArgs_ok hgn hka hA
  cases d with
  | zero => omega
  | succ d =>
    have hdk : dk ≤ d := by omega
    split at h5
    · rename_i row hrow
      obtain ⟨h5, h6⟩ := bb2 h5
      obtain ⟨h6, h7⟩ := bb2 h6
      obtain ⟨-, hml, -, h0⟩ := mt_at hk hrow
      have hflt := flt_ok hka hA
      have hlen := hflt.len
      have b5 := ble_iff.mp h5
      rw [hml] at b5 h7
      have hcuts := cuts_ok (Y := Y) (PS := PS) (dep := dep) (Γ0 := Γ) (M0 := M) (d := d) (t := t) (ρ0 := ρ) (α0 := α) hPS hBR hdk hAN hLN hi rfl hk hEP (cuts := cuts) (f := f) (by rw [List.all_eq_true] at h2; exact h2)
      have hgd := seE_ok (Γ0 := Γ) (M0 := M) (d := d) (g0 := (kArgs t).map (valO ρ α)) (g1 := []) hPS hBR hdk hAN hLN hi rfl hk (acc := accE (kM t) EP cuts) (by
        intro n S hacc
        unfold accE at hacc
        cases hep : EP n with
        | some fe =>
          rw [hep] at hacc
          exact hEP n fe hep d hdk _ _ ρ α Γ M S (Option.some.inj hacc)
        | none =>
        rw [hep] at hacc
        have hacc : (match cutAt cuts n with
          | some A1 => some (hasI (kM t) n && accA A1 S)
          | none => none) = some true := hacc
        split at hacc
        · rename_i A1 hA0
          obtain ⟨hA1, hn⟩ := cutAt_ok hA0
          obtain ⟨b1, b2⟩ := bb2 (Option.some.inj hacc)
          obtain ⟨e1, r1, hq1⟩ := hasI_ok b1
          refine ⟨e1, r1, hq1, fun ρ2 α2 Γ2 M2 ls3 st3 rel3 => ?_⟩
          obtain ⟨rfl, ρ4, α4, rel4⟩ := accA_ok (gPSw hBR.2.2.1 _ _) (g2 := []) b2 rel3
          subst hn
          exact hcuts _ A1 hA1 ρ4 α4 Γ2 M2 ls3 _ rel4 rfl e1 r1 hq1
        · cases hacc) f 0 _ h7
      obtain ⟨e, r, hq, hw⟩ := hgd
      have he : e.1 = 0 := h0 e r (by rw [← hq, List.drop_zero])
      rw [he] at hw
      refine Rm.of (ent (kM t) as) (by rw [eq_iff_iff]; exact ⟨fun _ => trivial, fun _ => by rw [← hlen]; exact b5⟩) rfl (hw ρ α Γ M (ent (kM t) as) [] ⟨hT, hB, ?_, trivial, fun f hf => absurd hf List.not_mem_nil, fun p hp => ?_, ⟨FRM.refl _ _ _, fun _ _ => rfl, Nat.le_refl _, Nat.le_refl _⟩⟩)
      · show ARs ρ α Γ (fltA (rArgs t) ++ List.replicate (mmaxl (kM t) - (fltA (rArgs t)).length) aD) (flt as ++ List.replicate (mmaxl (kM t) - (flt as).length) vn)
        rw [hlen]
        exact hflt.app (ARs_rep _)
      · rcases List.mem_cons.mp hp with rfl | hp
        · exact valO_unGs _ _ _
        · exact (gPFs (bb2 (bb2 hi).1).1).mpr hP p hp
    · cases h5
theorem verK_ok (hPS : PSok Y PS dep) (hBR : PSax Y PS) {dk : Nat} {AN : Nat → KT} (hAN : ∀ n, KOK Y PS (AN n)) {LN : Nat → List (KT × List (List Nat))} (hLN : ∀ n, ∀ p ∈ LN n, LOK Y PS p.1) {cuts : List CUT} {f : Nat} (h : verK Y dep t dk AN LN cuts f = true) : KOK Y PS t := verE_ok hPS hBR hAN hLN (EP := noEP) (fun n f hf => by cases hf) h
end
