/-! THE CHECKER: a method's contract out of its runs -/
def fdG1 (PF : List PFE) : Option (List AV) := match PF.find? fun p => Nat.beq p.1 1 with
  | some p => some p.2
  | none => none
def mvI (m : MV) : Int := match m with
  | .inl x => x
  | _ => 0
def cval (c : MC) (m : MV) : Nat := match c.1 with
  | 0 => c.2.2.toNat
  | 1 => (c.2.2 - mvI m).toNat
  | _ => (mvI m - c.2.2).toNat
def mvA (A : CUT) : List AV := (cMs A).map fun c => cond (Nat.beq c.1 0) (aC 0) (A.2.2.2.2.1.getD c.2.1 aD)
def okM (A : CUT) : Bool := (mvA A).all isI
def mV (A : CUT) (ls2 : List MV) : List Nat := (cMs A).map fun c => cval c (ls2.getD c.2.1 vn)
/-- a part of a measure is small -/
def cB (C : BC) (ls : List AV) (c : MC) : Bool := match c.1 with
  | 0 => ltB c.2.2 10000000000
  | 1 => isI (ls.getD c.2.1 aD) && ltB (c.2.2 - (ivl C (ls.getD c.2.1 aD)).1) 10000000000
  | _ => isI (ls.getD c.2.1 aD) && ltB ((ivl C (ls.getD c.2.1 aD)).2 - c.2.2) 10000000000
def lt21 (F : List PFE) (a b : AV) : Bool := F.any fun p => Nat.beq p.1 21 && (match p.2 with
  | [x, y] => (isI x && isI y) && (avEq x a && avEq y b)
  | _ => false)
def decL (F : List PFE) (C : BC) (ls : List AV) : List MC → List AV → List MC → Bool
  | m0 :: r0, a0 :: v0, m1 :: r1 => Nat.beq m0.1 m1.1 && (match m0.1 with
    | 0 => (ltB m1.2.2 m0.2.2 && not (ltB m1.2.2 0)) || (eqB m0.2.2 m1.2.2 && decL F C ls r0 v0 r1)
    | 1 => (eqB m0.2.2 m1.2.2 && (isI a0 && isI (ls.getD m1.2.1 aD))) && (((sameN a0 (ls.getD m1.2.1 aD) && (ltB a0.2.2.2 (ls.getD m1.2.1 aD).2.2.2 && not (ltB m1.2.2 (ivl C (ls.getD m1.2.1 aD)).2))) || (lt21 F a0 (ls.getD m1.2.1 aD) && not (ltB m1.2.2 (ivl C (ls.getD m1.2.1 aD)).2))) || (avEq a0 (ls.getD m1.2.1 aD) && decL F C ls r0 v0 r1))
    | _ => (eqB m0.2.2 m1.2.2 && (isI a0 && isI (ls.getD m1.2.1 aD))) && ((sameN a0 (ls.getD m1.2.1 aD) && (ltB (ls.getD m1.2.1 aD).2.2.2 a0.2.2.2 && not (ltB (ivl C (ls.getD m1.2.1 aD)).1 m1.2.2))) || (avEq a0 (ls.getD m1.2.1 aD) && decL F C ls r0 v0 r1)))
  | _, _, _ => false
theorem lt21_ok {PS : PST} {ρ : Nat → Int} {α Γ : Nat → Nat} {M : MM} {F : List PFE} (hF : PFs PS ρ α Γ M F) (h21 : ∀ (x y : Int) (Γ : Nat → Nat) (M : MM), PS 21 [vi x, vi y] Γ M → x < y) {a b : AV} (h : lt21 F a b = true) : iv ρ a < iv ρ b := by
  unfold lt21 at h
  rw [List.any_eq_true] at h
  obtain ⟨p, hp, h⟩ := h
  obtain ⟨id, l⟩ := p
  obtain ⟨h1, h2⟩ := bb2 h
  have h1 : id = 21 := beq_iff.mp h1
  subst h1
  match l, hp, h2 with
  | [x, y], hp, h2 =>
    obtain ⟨h3, h4⟩ := bb2 (show ((isI x && isI y) && (avEq x a && avEq y b)) = true from h2)
    obtain ⟨h5, h6⟩ := bb2 h3
    obtain ⟨h7, h8⟩ := bb2 h4
    have q : PS 21 [valO ρ α x, valO ρ α y] Γ M := hF _ hp
    rw [valO_int h5, valO_int h6] at q
    rw [← avEq_iv h7, ← avEq_iv h8]
    exact h21 _ _ _ _ q
  | [], _, h2 => cases h2
  | [_], _, h2 => cases h2
  | _ :: _ :: _ :: _, _, h2 => cases h2
theorem getD_int {ρ : Nat → Int} {α Γ : Nat → Nat} {ls : List AV} {ls2 : List MV} {j : Nat} (r : ARs ρ α Γ ls ls2) (h : isI (ls.getD j aD) = true) : ls2.getD j vn = vi (iv ρ (ls.getD j aD)) := by
  cases hq : ls[j]? with
  | none =>
    rw [List.getD_eq_getElem?_getD, hq] at h
    cases (show false = true from h)
  | some v =>
    obtain ⟨m, h1, h2⟩ := r.get j hq
    have e : ls.getD j aD = v := by rw [List.getD_eq_getElem?_getD, hq]; rfl
    rw [e] at h ⊢
    rw [List.getD_eq_getElem?_getD, h1]
    exact h2.int h
theorem decL_ok {PS : PST} {F : List PFE} {M : MM} {C : BC} {ls : List AV} {ρ : Nat → Int} {α Γ : Nat → Nat} {ls2 : List MV} (h21 : ∀ (x y : Int) (Γ : Nat → Nat) (M : MM), PS 21 [vi x, vi y] Γ M → x < y) (hF : PFs PS ρ α Γ M F) (hC : BO ρ C) (r : ARs ρ α Γ ls ls2) : ∀ (r0 : List MC) (v0 : List AV) (r1 : List MC), decL F C ls r0 v0 r1 = true → lexD (r1.map fun c => cval c (ls2.getD c.2.1 vn)) (List.zipWith cval r0 (v0.map (valO ρ α)))
  | [], _, _, h => by cases h
  | _ :: _, [], _, h => by cases h
  | _ :: _, _ :: _, [], h => by cases h
  | m0 :: r0, a0 :: v0, m1 :: r1, h => by
    have ih := decL_ok h21 hF hC r r0 v0 r1
    unfold decL at h
    obtain ⟨h1, h2⟩ := bb2 h
    have h1 := beq_iff.mp h1
    show (cval m1 (ls2.getD m1.2.1 vn) < cval m0 (valO ρ α a0)) ∨ (cval m1 (ls2.getD m1.2.1 vn) = cval m0 (valO ρ α a0) ∧ lexD (r1.map fun c => cval c (ls2.getD c.2.1 vn)) (List.zipWith cval r0 (v0.map (valO ρ α))))
    unfold cval
    rw [← h1]
    split at h2
    · rw [Bool.or_eq_true] at h2
      rcases h2 with h2 | h2
      · rw [Bool.and_eq_true, Bool.not_eq_true', ltB_iff, ltB_f] at h2
        left
        show m1.2.2.toNat < m0.2.2.toNat
        omega
      · obtain ⟨h3, h4⟩ := bb2 h2
        rw [eqB_iff] at h3
        right
        exact ⟨by show m1.2.2.toNat = m0.2.2.toNat; rw [h3], ih h4⟩
    · obtain ⟨h3, h4⟩ := bb2 h2
      obtain ⟨h3, h5⟩ := bb2 h3
      obtain ⟨h5, h6⟩ := bb2 h5
      rw [eqB_iff] at h3
      have e1 := getD_int r h6
      have hb := ivl_ok hC h6
      rw [Bool.or_eq_true] at h4
      rw [e1, valO_int h5]
      show ((m1.2.2 - iv ρ (ls.getD m1.2.1 aD)).toNat < (m0.2.2 - iv ρ a0).toNat) ∨ _
      rw [Bool.or_eq_true] at h4
      rcases h4 with (h4 | h4) | h4
      · obtain ⟨h7, h8⟩ := bb2 h4
        rw [Bool.and_eq_true, Bool.not_eq_true', ltB_iff, ltB_f] at h8
        have := sameN_iv (ρ := ρ) h7
        left
        omega
      · obtain ⟨h7, h8⟩ := bb2 h4
        rw [Bool.not_eq_true', ltB_f] at h8
        have := lt21_ok hF h21 h7
        left
        omega
      · obtain ⟨h7, h8⟩ := bb2 h4
        right
        refine ⟨?_, ih h8⟩
        show (m1.2.2 - iv ρ (ls.getD m1.2.1 aD)).toNat = (m0.2.2 - iv ρ a0).toNat
        rw [h3, avEq_iv h7]
    · rename_i k0 k1
      obtain ⟨h3, h4⟩ := bb2 h2
      obtain ⟨h3, h5⟩ := bb2 h3
      obtain ⟨h5, h6⟩ := bb2 h5
      rw [eqB_iff] at h3
      have e1 := getD_int r h6
      have hb := ivl_ok hC h6
      rw [Bool.or_eq_true] at h4
      rw [e1, valO_int h5]
      show ((iv ρ (ls.getD m1.2.1 aD) - m1.2.2).toNat < (iv ρ a0 - m0.2.2).toNat) ∨ _
      rcases h4 with h4 | h4
      · obtain ⟨h7, h8⟩ := bb2 h4
        rw [Bool.and_eq_true, Bool.not_eq_true', ltB_iff, ltB_f] at h8
        have := sameN_iv (ρ := ρ) h7
        left
        omega
      · obtain ⟨h7, h8⟩ := bb2 h4
        right
        refine ⟨?_, ih h8⟩
        show (iv ρ (ls.getD m1.2.1 aD) - m1.2.2).toNat = (iv ρ a0 - m0.2.2).toNat
        rw [h3, avEq_iv h7]
noncomputable def cutAt (cuts : List CUT) (n : Nat) : Option CUT := cuts.find? fun A => Nat.beq A.1 n
noncomputable def hasI (k n : Nat) : Bool := not ((ops k).drop n).isEmpty
noncomputable def seE (Y : Nat → TYE) (dep : Nat → List EF) (t : KT) (dk : Nat) (AN : Nat → KT) (LN : Nat → List (KT × List (List Nat))) (k : Nat) (acc : Nat → SE → Option Bool) (f : Nat) : GE := Nat.rec (motive := fun _ => GE) (fun _ _ => false) (fun _ ih n S => match acc n S with
  | some b => b
  | none => (match (ops k).drop n with
    | [] => false
    | e :: _ => e_lems (LN n) (stepE k Y dep t dk AN ih n e) S)) f
section
variable {Y : Nat → TYE} {PS : PST} {dep : Nat → List EF} {Γ0 : Nat → Nat} {M0 : MM} {d k : Nat}
variable {t : KT} {g0 g1 : List MV} {ρ0 : Nat → Int} {α0 : Nat → Nat}
theorem stepG0 (hPS : PSok Y PS dep) (hBR : PSax Y PS) {dk : Nat} (hdk : dk ≤ d) {AN : Nat → KT} (hAN : ∀ n, KOK Y PS (AN n)) (hi : idsK t = true) (ha : g0 = (kArgs t).map (valO ρ0 α0)) (hk : k < nT) {go : GE} (hgo : ∀ n S, go n S = true → GD Y (gPS g0 g1 PS) (kEff t) Γ0 M0 d k (KPost Y PS t ρ0 α0 Γ0 M0) n S) {n : Nat} {e : OE} {r : List OE} (hq : (ops k).drop n = e :: r) {S : SE} (h : stepE k Y (gDep dep) t dk AN go n e S = true) : TRU Y (gPS g0 g1 PS) (kEff t) Γ0 M0 d k (KPost Y PS t ρ0 α0 Γ0 M0) e.1 S := by
  cases hn : isNop e.2.1 with
  | true =>
    have e1 : e.2.1 = .nop := by
      unfold isNop at hn
      split at hn
      · assumption
      · cases hn
    unfold stepE at h
    rw [e1] at h
    cases (show false = true from h)
  | false => exact step_okE hPS hBR hdk hAN hi ha ⟨hgo, hk, hq, row_at hk hq, hn⟩ h
theorem stepG (hPS : PSok Y PS dep) (hBR : PSax Y PS) {dk : Nat} (hdk : dk ≤ d) {AN : Nat → KT} (hAN : ∀ n, KOK Y PS (AN n)) {LN : Nat → List (KT × List (List Nat))} (hLN : ∀ n, ∀ p ∈ LN n, LOK Y PS p.1) (hi : idsK t = true) (ha : g0 = (kArgs t).map (valO ρ0 α0)) (hk : k < nT) {go : GE} (hgo : ∀ n S, go n S = true → GD Y (gPS g0 g1 PS) (kEff t) Γ0 M0 d k (KPost Y PS t ρ0 α0 Γ0 M0) n S) {n : Nat} {e : OE} {r : List OE} (hq : (ops k).drop n = e :: r) {S : SE} (h : e_lems (LN n) (stepE k Y (gDep dep) t dk AN go n e) S = true) : TRU Y (gPS g0 g1 PS) (kEff t) Γ0 M0 d k (KPost Y PS t ρ0 α0 Γ0 M0) e.1 S := by
  intro ρ α Γ M ls2 st2 rel
  obtain ⟨S1, h1, rel1⟩ := e_lems_ok (gPSw hBR.2.2.1 g0 g1) (LN n) (fun p hp hi => gLOK (hLN n p hp) hi g0 g1) h rel
  exact stepG0 hPS hBR hdk hAN hi ha hk hgo hq h1 ρ α Γ M ls2 st2 rel1
theorem seE_ok (hPS : PSok Y PS dep) (hBR : PSax Y PS) {dk : Nat} (hdk : dk ≤ d) {AN : Nat → KT} (hAN : ∀ n, KOK Y PS (AN n)) {LN : Nat → List (KT × List (List Nat))} (hLN : ∀ n, ∀ p ∈ LN n, LOK Y PS p.1) (hi : idsK t = true) (ha : g0 = (kArgs t).map (valO ρ0 α0)) (hk : k < nT) {acc : Nat → SE → Option Bool} (hacc : ∀ n S, acc n S = some true → GD Y (gPS g0 g1 PS) (kEff t) Γ0 M0 d k (KPost Y PS t ρ0 α0 Γ0 M0) n S) : ∀ (f n : Nat) (S : SE), seE Y (gDep dep) t dk AN LN k acc f n S = true → GD Y (gPS g0 g1 PS) (kEff t) Γ0 M0 d k (KPost Y PS t ρ0 α0 Γ0 M0) n S
  | 0, _, _, h => by cases (show false = true from h)
  | f + 1, n, S, h => by
    have h : (match acc n S with
      | some b => b
      | none => (match (ops k).drop n with
        | [] => false
        | e :: _ => e_lems (LN n) (stepE k Y (gDep dep) t dk AN (seE Y (gDep dep) t dk AN LN k acc f) n e) S)) = true := h
    cases hc : acc n S with
    | some b =>
      rw [hc] at h
      have h : b = true := h
      subst h
      exact hacc n S hc
    | none =>
      rw [hc] at h
      have h : (match (ops k).drop n with
        | [] => false
        | e :: _ => e_lems (LN n) (stepE k Y (gDep dep) t dk AN (seE Y (gDep dep) t dk AN LN k acc f) n e) S) = true := h
      cases hq : (ops k).drop n with
      | nil => rw [hq] at h; cases (show false = true from h)
      | cons e r =>
        rw [hq] at h
        exact ⟨e, r, hq, stepG hPS hBR hdk hAN hLN hi ha hk (seE_ok hPS hBR hdk hAN hLN hi ha hk hacc f) hq h⟩
end
