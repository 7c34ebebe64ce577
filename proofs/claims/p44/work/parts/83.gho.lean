/-! THE CHECKER: loops whose measure lies in the heap: facts 30, 32 .. 48 (a measure is at most g), 31, 33 .. 49 (it is less) -/
def ghE (id : Nat) : Bool := Nat.ble 30 id && (Nat.ble id 49 && Nat.beq (id % 2) 0)
/-- these, and 50 to 69, 86 to 92, 190 to 199, 290 to 299, 390 to 399, which may be of g otherwise -/
def ghO (id : Nat) : Bool := (Nat.ble 30 id && (Nat.ble id 49 && Nat.beq (id % 2) 1)) || ((Nat.ble 50 id && Nat.ble id 69) || ((Nat.ble 86 id && Nat.ble id 92) || ((Nat.ble 190 id && Nat.ble id 199) || ((Nat.ble 290 id && Nat.ble id 299) || ((Nat.ble 390 id && Nat.ble id 399) || (Nat.ble 450 id && Nat.ble id 999))))))
def PSgh (PSG : Nat → PST) (sh : Nat → List MV → (Nat → Nat) → MM → Prop) (mu : Nat → List MV → (Nat → Nat) → MM → Nat) : Prop :=
  (∀ id, ghE id = false → ghO id = false → ∀ g g2 l Γ M, PSG g id l Γ M → PSG g2 id l Γ M) ∧
  (∀ id g l Γ M, ghE id = true → (PSG g id l Γ M ↔ sh id l Γ M ∧ mu id l Γ M ≤ g)) ∧
  (∀ id g l Γ M, ghE id = true → (PSG g (id + 1) l Γ M ↔ sh id l Γ M ∧ mu id l Γ M < g)) ∧
  (∀ id g l Γ M, ghE id = true → (PSG g (id + 100) l Γ M ↔ sh id l Γ M))
theorem ghE_b {id : Nat} (h : ghE id = true) : 30 ≤ id ∧ id ≤ 49 ∧ id % 2 = 0 := by
  obtain ⟨h1, h2⟩ := bb2 h
  obtain ⟨h2, h3⟩ := bb2 h2
  exact ⟨ble_iff.mp h1, ble_iff.mp h2, beq_iff.mp h3⟩
def setF (A : CUT) (F : List PFE) : CUT := (A.1, A.2.1, A.2.2.1, A.2.2.2.1, A.2.2.2.2.1, F, A.2.2.2.2.2.2)
def cF (A : CUT) : List PFE := A.2.2.2.2.2.1
def strF (F : List PFE) : List PFE := F.map fun p => cond (ghE p.1) (p.1 + 1, p.2) p
def freF (F : List PFE) : List PFE := F.map fun p => cond (ghE p.1) (p.1 + 100, p.2) p
def okS (F : List PFE) : Bool := (F.any fun p => ghE p.1) && F.all fun p => not (ghO p.1)
def okE (F : List PFE) : Bool := (F.all fun p => not (ghO p.1)) && Nat.ble (F.filter fun p => ghE p.1).length 1
noncomputable def accEG (k : Nat) (cuts : List CUT) (n : Nat) (S : SE) : Option Bool := match cutAt cuts n with
  | some A => some (hasI k n && (accA (setF A (freF (cF A))) S && okE (cF A)))
  | none => none
noncomputable def accMG (k : Nat) (cuts : List CUT) (A0 : CUT) (n : Nat) (S : SE) : Option Bool := match cutAt cuts n with
  | some A => some (hasI k n && ((accA A S && decB A0 A S) || (accA (setF A (strF (cF A))) S && okS (cF A))))
  | none => none
noncomputable def cutRunG (Y : Nat → TYE) (dep : Nat → List EF) (t : KT) (dk : Nat) (AN : Nat → KT) (LN : Nat → List (KT × List (List Nat))) (cuts : List CUT) (f : Nat) (A : CUT) : Bool := (okM A && A.2.2.2.2.2.1.all fun p => not (Nat.beq p.1 1)) && (match (ops (kM t)).drop A.1 with
  | [] => false
  | e :: _ => e_lems (LN A.1) (stepE (kM t) Y (gDep dep) t dk AN (seE Y (gDep dep) t dk AN LN (kM t) (accMG (kM t) cuts A) f) A.1 e) (cutSt1 A))
def noG (ps : List PFE) : Bool := ps.all fun p => not (ghE p.1) && not (ghO p.1)
def noGK (t : KT) : Bool := (noG (kPre t) && noG (kPost t)) && (noG (kT t).2 && noG (kF t).2)
noncomputable def verG (Y : Nat → TYE) (dep : Nat → List EF) (t : KT) (dk : Nat) (AN : Nat → KT) (LN : Nat → List (KT × List (List Nat))) (cuts : List CUT) (f : Nat) : Bool :=
  (((noGK t && idsK t) && kaB 0 (kArgs t)) && (Nat.beq (kD t) (dk + 1) && Nat.ble (Nat.succ (kM t)) nT)) && ((cuts.all (cutRunG Y dep t dk AN LN cuts f)) && (match bget 9 mtT (kM t) with
    | some row => Nat.ble (fltA (rArgs t)).length row.2.1 && (hasI (kM t) 0 && seE Y (gDep dep) t dk AN LN (kM t) (accEG (kM t) cuts) f 0 (fltA (rArgs t) ++ List.replicate (row.2.1 - (fltA (rArgs t)).length) aD, [], kB t, (kArgs t).length, [], (0, unGs (kArgs t)) :: kPre t, 0, 0))
    | none => false))
section
variable {Y : Nat → TYE} {PSG : Nat → PST} {sh : Nat → List MV → (Nat → Nat) → MM → Prop} {mu : Nat → List MV → (Nat → Nat) → MM → Nat} {dep : Nat → List EF} {Γ0 : Nat → Nat} {M0 : MM} {d : Nat}
variable {t : KT} {g0 : List MV} {ρ0 : Nat → Int} {α0 : Nat → Nat}
theorem noG_imp (hG : PSgh PSG sh mu) {g g2 : Nat} {ps : List PFE} (h : noG ps = true) {ρ : Nat → Int} {α Γ : Nat → Nat} {M : MM} (r : PFs (PSG g) ρ α Γ M ps) : PFs (PSG g2) ρ α Γ M ps := by
  intro p hp
  unfold noG at h
  rw [List.all_eq_true] at h
  have := h p hp
  rw [Bool.and_eq_true, Bool.not_eq_true', Bool.not_eq_true'] at this
  exact hG.1 p.1 this.1 this.2 _ _ _ _ _ (r p hp)
theorem KPost_g (hG : PSgh PSG sh mu) {g g2 : Nat} (h : noGK t = true) {ρ : Nat → Int} {α Γ : Nat → Nat} {M M2 : MM} {r : Option MV} (q : KPost Y (PSG g) t ρ α Γ M r M2) : KPost Y (PSG g2) t ρ α Γ M r M2 := by
  obtain ⟨h1, h2⟩ := bb2 h
  obtain ⟨h1, h3⟩ := bb2 h1
  obtain ⟨h2, h4⟩ := bb2 h2
  obtain ⟨Γ2, a, b, c, e, f, w⟩ := q
  exact ⟨Γ2, a, b, c, e, f, RESok_imp (fun _ => noG_imp hG h3) (fun _ => noG_imp hG h2) (fun _ => noG_imp hG h4) w⟩
theorem gPS_g {PS PS2 : PST} {g0 g1 : List MV} {id : Nat} {l : List MV} {Γ : Nat → Nat} {M : MM} (h : PS id l Γ M → PS2 id l Γ M) (q : gPS g0 g1 PS id l Γ M) : gPS g0 g1 PS2 id l Γ M := by
  match id, h, q with
  | 0, _, q => exact q
  | 1, _, q => exact q
  | id + 2, h, q => exact h q
theorem gPS_2 {PS : PST} {g0 g1 : List MV} {id : Nat} (hi : 2 ≤ id) {l : List MV} {Γ : Nat → Nat} {M : MM} : gPS g0 g1 PS id l Γ M ↔ PS id l Γ M := by
  match id, hi with
  | id + 2, _ => exact Iff.rfl
/-- the facts of a cut again, under another g -/
theorem REL_F {PS PS2 : PST} {E : List EF} {A : CUT} {F : List PFE} {ρ : Nat → Int} {α Γ : Nat → Nat} {M : MM} {ls2 : List MV} (r : REL Y PS E Γ0 M0 ρ α Γ M (cSt (setF A F)) ls2 []) (h : ∀ p ∈ cF A, PS2 p.1 (p.2.map (valO ρ α)) Γ M) : REL Y PS2 E Γ0 M0 ρ α Γ M (cSt A) ls2 [] := ⟨r.1, r.2.1, r.2.2.1, trivial, r.2.2.2.2.1, h, r.2.2.2.2.2.2⟩
theorem cutsG_ok (hG : PSgh PSG sh mu) (hPS : ∀ g, PSok Y (PSG g) dep) (hBR : ∀ g, PSax Y (PSG g)) {dk : Nat} (hdk : dk ≤ d) {AN : Nat → KT} (hAN : ∀ g n, KOK Y (PSG g) (AN n)) {LN : Nat → List (KT × List (List Nat))} (hLN : ∀ g n, ∀ p ∈ LN n, LOK Y (PSG g) p.1) (hnG : noGK t = true) (hi : idsK t = true) (ha : g0 = (kArgs t).map (valO ρ0 α0)) (hk : kM t < nT) {cuts : List CUT} {f : Nat} (hr : ∀ A ∈ cuts, cutRunG Y dep t dk AN LN cuts f A = true) : ∀ (gg m : Nat) (A : CUT), A ∈ cuts → ∀ ρ α Γ M ls2 g, REL Y (gPS g0 g (PSG gg)) (kEff t) Γ0 M0 ρ α Γ M (cSt A) ls2 [] → numL (mV A ls2) = m → ∀ e r, (ops (kM t)).drop A.1 = e :: r → Wm d (kM t) e.1 ls2 [] M (KPost Y (PSG gg) t ρ0 α0 Γ0 M0) := by
  have body : ∀ gg : Nat, (∀ gx : Nat, gg = gx + 1 → ∀ (m : Nat) (A : CUT), A ∈ cuts → ∀ ρ α Γ M ls2 g, REL Y (gPS g0 g (PSG gx)) (kEff t) Γ0 M0 ρ α Γ M (cSt A) ls2 [] → numL (mV A ls2) = m → ∀ e r, (ops (kM t)).drop A.1 = e :: r → Wm d (kM t) e.1 ls2 [] M (KPost Y (PSG gx) t ρ0 α0 Γ0 M0)) → ∀ (m : Nat) (A : CUT), A ∈ cuts → ∀ ρ α Γ M ls2 g, REL Y (gPS g0 g (PSG gg)) (kEff t) Γ0 M0 ρ α Γ M (cSt A) ls2 [] → numL (mV A ls2) = m → ∀ e r, (ops (kM t)).drop A.1 = e :: r → Wm d (kM t) e.1 ls2 [] M (KPost Y (PSG gg) t ρ0 α0 Γ0 M0) := by
    intro gg ihg m
    induction m using Nat.strongRecOn with
    | _ m ih =>
      intro A hA ρ α Γ M ls2 g rel hm e r hq
      have hrun := hr A hA
      unfold cutRunG at hrun
      obtain ⟨h1, h2⟩ := bb2 hrun
      obtain ⟨h1, h3⟩ := bb2 h1
      rw [hq] at h2
      have rel2 : REL Y (gPS g0 ((mvA A).map (valO ρ α)) (PSG gg)) (kEff t) Γ0 M0 ρ α Γ M (cutSt1 A) ls2 [] := by
        refine ⟨rel.1, rel.2.1, rel.2.2.1, trivial, rel.2.2.2.2.1, fun p hp => ?_, rel.2.2.2.2.2.2⟩
        rcases List.mem_cons.mp hp with rfl | hp
        · rfl
        · have q := rel.2.2.2.2.2.1 p hp
          rw [List.all_eq_true] at h3
          have hp1 := h3 p hp
          obtain ⟨id, l⟩ := p
          match id, q, hp1 with
          | 0, q, _ => exact q
          | 1, _, hp1 => cases (show false = true from hp1)
          | id + 2, q, _ => exact q
      refine stepG (hPS gg) (hBR gg) hdk (hAN gg) (hLN gg) hi ha hk (seE_ok (hPS gg) (hBR gg) hdk (hAN gg) (hLN gg) hi ha hk ?_ f) hq h2 ρ α Γ M ls2 [] rel2
      intro n S hacc
      unfold accMG at hacc
      split at hacc
      · rename_i A1 hA0
        obtain ⟨hA1, hn⟩ := cutAt_ok hA0
        obtain ⟨b1, b2⟩ := bb2 (Option.some.inj hacc)
        obtain ⟨e1, r1, hq1⟩ := hasI_ok b1
        refine ⟨e1, r1, hq1, fun ρ2 α2 Γ2 M2 ls3 st3 rel3 => ?_⟩
        subst hn
        rw [Bool.or_eq_true] at b2
        rcases b2 with b2 | b2
        · obtain ⟨b2, b3⟩ := bb2 b2
          obtain ⟨rfl, ρ4, α4, rel4⟩ := accA_ok (gPSw (hBR gg).2.2.1 _ _) (g2 := (mvA A).map (valO ρ α)) b2 rel3
          refine ih (numL (mV A1 ls3)) ?_ A1 hA1 ρ4 α4 Γ2 M2 ls3 _ rel4 rfl e1 r1 hq1
          rw [← hm]
          unfold decB at b3
          split at b3
          · rename_i gl hgl
            obtain ⟨c1, c2⟩ := bb2 b3
            obtain ⟨c1, c3⟩ := bb2 c1
            obtain ⟨c2, c4⟩ := bb2 c2
            have hg : gl.map (valO ρ2 α2) = (mvA A).map (valO ρ α) := by
              unfold fdG1 at hgl
              split at hgl
              · rename_i p hp
                cases hgl
                have hm1 := List.mem_of_find?_eq_some hp
                have hb1 : Nat.beq p.1 1 = true := List.find?_some (p := fun p : PFE => Nat.beq p.1 1) hp
                have q := rel3.2.2.2.2.2.1 p hm1
                rw [beq_iff.mp hb1] at q
                exact q
              · cases hgl
            have hlex := decL_ok (PS := gPS _ _ _) (fun x y Γ M q => (hBR _).2.2.2.2.2.1.2.2 x y Γ M q) rel3.2.2.2.2.2.1 rel3.2.1 rel3.2.2.1 (cMs A) gl (cMs A1) c4
            rw [hg] at hlex
            have hz : List.zipWith cval (cMs A) ((mvA A).map (valO ρ α)) = mV A ls2 := mv_eq rel.2.2.1 (cMs A) h1
            rw [hz] at hlex
            refine lexD_lt hlex ?_ ?_
            · unfold mV
              rw [List.length_map, List.length_map]
              exact beq_iff.mp c1
            · intro x hx
              obtain ⟨c, hc, rfl⟩ := List.mem_map.mp hx
              rw [List.all_eq_true] at c2
              exact cB_ok rel3.2.1 rel3.2.2.1 (c2 c hc)
          · cases b3
        · obtain ⟨b2, b3⟩ := bb2 b2
          obtain ⟨rfl, ρ4, α4, rel4⟩ := accA_ok (gPSw (hBR gg).2.2.1 _ _) (g2 := (mvA A).map (valO ρ α)) b2 rel3
          obtain ⟨s1, s2⟩ := bb2 b3
          rw [List.any_eq_true] at s1
          rw [List.all_eq_true] at s2
          have hst : ∀ p ∈ cF A1, ghE p.1 = true → sh p.1 (p.2.map (valO ρ4 α4)) Γ2 M2 ∧ mu p.1 (p.2.map (valO ρ4 α4)) Γ2 M2 < gg := by
            intro p hp hgh
            have q := rel4.2.2.2.2.2.1 (p.1 + 1, p.2) (List.mem_map.mpr ⟨p, hp, by rw [hgh, cond_true]⟩)
            have hb := ghE_b hgh
            exact (hG.2.2.1 p.1 gg _ Γ2 M2 hgh).mp ((gPS_2 (by show 2 ≤ p.1 + 1; omega)).mp q)
          obtain ⟨p0, hp0, hgh0⟩ := s1
          have hlt := (hst p0 hp0 hgh0).2
          obtain ⟨gx, rfl⟩ : ∃ gx, gg = gx + 1 := ⟨gg - 1, by omega⟩
          have rel5 : REL Y (gPS g0 ((mvA A).map (valO ρ α)) (PSG gx)) (kEff t) Γ0 M0 ρ4 α4 Γ2 M2 (cSt A1) ls3 [] := REL_F rel4 (fun p hp => by
            cases hgh : ghE p.1 with
            | true =>
              have := hst p hp hgh
              have hb := ghE_b hgh
              exact (gPS_2 (by omega)).mpr ((hG.2.1 p.1 gx _ Γ2 M2 hgh).mpr ⟨this.1, by omega⟩)
            | false =>
              have q := rel4.2.2.2.2.2.1 p (List.mem_map.mpr ⟨p, hp, by rw [hgh, cond_false]⟩)
              have ho := s2 p hp
              rw [Bool.not_eq_true'] at ho
              exact gPS_g (fun z => hG.1 p.1 hgh ho _ _ _ _ _ z) q)
          exact (ihg gx rfl (numL (mV A1 ls3)) A1 hA1 ρ4 α4 Γ2 M2 ls3 _ rel5 rfl e1 r1 hq1).imp fun _ _ q => KPost_g hG hnG q
      · cases hacc
  intro gg
  induction gg with
  | zero => exact body 0 (fun gx h => by cases h)
  | succ gx ih => exact body (gx + 1) (fun gy h => by cases h; exact ih)
theorem verG_ok (hG : PSgh PSG sh mu) (hPS : ∀ g, PSok Y (PSG g) dep) (hBR : ∀ g, PSax Y (PSG g)) {dk : Nat} {AN : Nat → KT} (hAN : ∀ g n, KOK Y (PSG g) (AN n)) {LN : Nat → List (KT × List (List Nat))} (hLN : ∀ g n, ∀ p ∈ LN n, LOK Y (PSG g) p.1) {cuts : List CUT} {f : Nat} (h : verG Y dep t dk AN LN cuts f = true) : ∀ gz, KOK Y (PSG gz) t := by
  obtain ⟨h1, h2⟩ := bb2 h
  obtain ⟨h1, h3⟩ := bb2 h1
  obtain ⟨hi, hka⟩ := bb2 h1
  obtain ⟨hnG, hi⟩ := bb2 hi
  obtain ⟨h3, h4⟩ := bb2 h3
  obtain ⟨h2, h5⟩ := bb2 h2
  have hD := beq_iff.mp h3
  have hk : kM t < nT := ble_iff.mp h4
  intro gz d ρ α Γ M as gs hgn hd hT hB hA hP
  obtain ⟨hka, hA⟩ := rArgs_ok hgn hka hA
  cases d with
  | zero => omega
  | succ d =>
    have hdk : dk ≤ d := by omega
    split at h5
    · rename_i row hrow
      obtain ⟨h5, h6⟩ := bb2 h5
      obtain ⟨h6, h7⟩ := bb2 h6
      obtain ⟨-, hml, -, h0⟩ := mt_at hk hrow
      have hflt := flt_ok hka hA
      have hlen := hflt.len
      have b5 := ble_iff.mp h5
      rw [hml] at b5 h7
      have hcuts := cutsG_ok (Y := Y) (PSG := PSG) (dep := dep) (Γ0 := Γ) (M0 := M) (d := d) (t := t) (ρ0 := ρ) (α0 := α) hG hPS hBR hdk hAN hLN hnG hi rfl hk (cuts := cuts) (f := f) (by rw [List.all_eq_true] at h2; exact h2)
      have hgd := seE_ok (Γ0 := Γ) (M0 := M) (d := d) (g0 := (kArgs t).map (valO ρ α)) (g1 := []) (hPS gz) (hBR gz) hdk (hAN gz) (hLN gz) hi rfl hk (acc := accEG (kM t) cuts) (by
        intro n S hacc
        unfold accEG at hacc
        split at hacc
        · rename_i A1 hA0
          obtain ⟨hA1, hn⟩ := cutAt_ok hA0
          obtain ⟨b1, b2⟩ := bb2 (Option.some.inj hacc)
          obtain ⟨b2, b3⟩ := bb2 b2
          obtain ⟨e1, r1, hq1⟩ := hasI_ok b1
          refine ⟨e1, r1, hq1, fun ρ2 α2 Γ2 M2 ls3 st3 rel3 => ?_⟩
          obtain ⟨rfl, ρ4, α4, rel4⟩ := accA_ok (gPSw (hBR gz).2.2.1 _ _) (g2 := []) b2 rel3
          subst hn
          obtain ⟨s1, s2⟩ := bb2 b3
          rw [List.all_eq_true] at s1
          have s2 := ble_iff.mp s2
          -- a g for the one measure that the cut speaks of
          have hg : ∃ gg, ∀ p ∈ cF A1, ghE p.1 = true → mu p.1 (p.2.map (valO ρ4 α4)) Γ2 M2 ≤ gg := by
            cases hf : (cF A1).filter fun p => ghE p.1 with
            | nil => exact ⟨0, fun p hp hgh => absurd (List.mem_filter.mpr ⟨hp, hgh⟩) (by rw [hf]; exact List.not_mem_nil)⟩
            | cons p0 rest =>
              rw [hf] at s2
              have hrest : rest = [] := by
                cases rest with
                | nil => rfl
                | cons _ _ => exact absurd s2 (by simp)
              refine ⟨mu p0.1 (p0.2.map (valO ρ4 α4)) Γ2 M2, fun p hp hgh => ?_⟩
              have hm : p ∈ (cF A1).filter fun p => ghE p.1 := List.mem_filter.mpr ⟨hp, hgh⟩
              rw [hf, hrest] at hm
              cases List.mem_singleton.mp hm
              exact Nat.le_refl _
          obtain ⟨gg, hgg⟩ := hg
          have rel5 : REL Y (gPS ((kArgs t).map (valO ρ α)) [] (PSG gg)) (kEff t) Γ M ρ4 α4 Γ2 M2 (cSt A1) ls3 [] := REL_F rel4 (fun p hp => by
            cases hgh : ghE p.1 with
            | true =>
              have hb := ghE_b hgh
              have q := rel4.2.2.2.2.2.1 (p.1 + 100, p.2) (List.mem_map.mpr ⟨p, hp, by rw [hgh, cond_true]⟩)
              have q2 := (hG.2.2.2 p.1 gz _ Γ2 M2 hgh).mp ((gPS_2 (by show 2 ≤ p.1 + 100; omega)).mp q)
              exact (gPS_2 (by omega)).mpr ((hG.2.1 p.1 gg _ Γ2 M2 hgh).mpr ⟨q2, hgg p hp hgh⟩)
            | false =>
              have q := rel4.2.2.2.2.2.1 p (List.mem_map.mpr ⟨p, hp, by rw [hgh, cond_false]⟩)
              have ho := s1 p hp
              rw [Bool.not_eq_true'] at ho
              exact gPS_g (fun z => hG.1 p.1 hgh ho _ _ _ _ _ z) q)
          exact (hcuts gg _ A1 hA1 ρ4 α4 Γ2 M2 ls3 _ rel5 rfl e1 r1 hq1).imp fun _ _ q => KPost_g hG hnG q
        · cases hacc) f 0 _ h7
      obtain ⟨e, r, hq, hw⟩ := hgd
      have he : e.1 = 0 := h0 e r (by rw [← hq, List.drop_zero])
      rw [he] at hw
      refine Rm.of (ent (kM t) as) (by rw [eq_iff_iff]; exact ⟨fun _ => trivial, fun _ => by rw [← hlen]; exact b5⟩) rfl (hw ρ α Γ M (ent (kM t) as) [] ⟨hT, hB, ?_, trivial, fun f hf => absurd hf List.not_mem_nil, fun p hp => ?_, ⟨FRM.refl _ _ _, fun _ _ => rfl, Nat.le_refl _, Nat.le_refl _⟩⟩)
      · show ARs ρ α Γ (fltA (rArgs t) ++ List.replicate (mmaxl (kM t) - (fltA (rArgs t)).length) aD) (flt as ++ List.replicate (mmaxl (kM t) - (flt as).length) vn)
        rw [hlen]
        exact hflt.app (ARs_rep _)
      · rcases List.mem_cons.mp hp with rfl | hp
        · exact valO_unGs _ _ _
        · exact (gPFs (bb2 (bb2 hi).1).1).mpr hP p hp
    · cases h5
end
