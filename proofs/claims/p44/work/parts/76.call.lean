/-! THE CHECKER: contracts, calls, ends -/
/-- (method, depth, cells, slots), arguments, their bounds, what must hold, (kind, bounds) of the result, cells written, what holds then, what holds if it is true, if it is false -/
abbrev CND : Type := List (Nat × Int × Int) × List PFE
abbrev KT : Type := (Nat × Nat × Nat × Nat) × List AV × BC × List PFE × (Nat × Int × Int) × List EF × List PFE × CND × CND
def kM (t : KT) : Nat := t.1.1
def kD (t : KT) : Nat := t.1.2.1
def kAo (t : KT) : Nat := t.1.2.2.1
def kAs (t : KT) : Nat := t.1.2.2.2
def kArgs (t : KT) : List AV := t.2.1
def kB (t : KT) : BC := t.2.2.1
def kPre (t : KT) : List PFE := t.2.2.2.1
def kRes (t : KT) : Nat × Int × Int := t.2.2.2.2.1
def kEff (t : KT) : List EF := t.2.2.2.2.2.1
def kPost (t : KT) : List PFE := t.2.2.2.2.2.2.1
def kT (t : KT) : CND := t.2.2.2.2.2.2.2.1
def kF (t : KT) : CND := t.2.2.2.2.2.2.2.2
def CNDok (PS : PST) (ρ : Nat → Int) (α Γ : Nat → Nat) (M : MM) (c : CND) : Prop := (∀ b ∈ c.1, b.2.1 ≤ ρ b.1 ∧ ρ b.1 ≤ b.2.2) ∧ PFs PS ρ α Γ M c.2
def RESok (PS : PST) (t : KT) (ρ : Nat → Int) (α Γ : Nat → Nat) (M : MM) (r : Option MV) : Prop := match (kRes t).1 with
  | 0 => r = none ∧ PFs PS ρ α Γ M (kPost t)
  | 1 => ∃ x, r = some (vi x) ∧ (kRes t).2.1 ≤ x ∧ x ≤ (kRes t).2.2 ∧ PFs PS (upI ρ (kArgs t).length x) α Γ M (kPost t)
  | 2 => (r = some (vi 1) ∧ CNDok PS ρ α Γ M (kT t)) ∨ (r = some (vi 0) ∧ CNDok PS ρ α Γ M (kF t))
  | _ => ∃ x, r = some (vl x)
def KPost (Y : Nat → TYE) (PS : PST) (t : KT) (ρ : Nat → Int) (α Γ : Nat → Nat) (M : MM) (r : Option MV) (M2 : MM) : Prop := ∃ Γ2, HTy Y Γ2 M2 ∧ FRM (kEff t) Γ M M2 ∧ GEX M.1 Γ Γ2 ∧ M2.1 ≤ M.1 + kAo t ∧ M2.2.1 ≤ M.2.1 + kAs t ∧ RESok PS t ρ α Γ2 M2 r
/-- arguments that are numbers of ours alone, behind the method's own: marked by 1 -/
def gN (t : KT) : Nat := ((kArgs t).filter fun a => Nat.beq a.1 1 && Nat.beq a.2.2.1 1).length
def rArgs (t : KT) : List AV := (kArgs t).take ((kArgs t).length - gN t)
/-- the contract holds -/
def KOK (Y : Nat → TYE) (PS : PST) (t : KT) : Prop := ∀ (d : Nat) (ρ : Nat → Int) (α Γ : Nat → Nat) (M : MM) (as gs : List MV), gs.length = gN t → kD t ≤ d → HTy Y Γ M → BO ρ (kB t) → ARs ρ α Γ (kArgs t) (as ++ gs) → PFs PS ρ α Γ M (kPre t) → Rm d (kM t) as M (KPost Y PS t ρ α Γ M)
theorem ARs.split {ρ : Nat → Int} {α Γ : Nat → Nat} : ∀ (a : List AV) {b : List AV} {m : List MV}, ARs ρ α Γ (a ++ b) m → ∃ m1 m2, m = m1 ++ m2 ∧ ARs ρ α Γ a m1 ∧ ARs ρ α Γ b m2
  | [], _, m, h => ⟨[], m, rfl, trivial, h⟩
  | v :: a, b, m, h => by
    obtain ⟨x, t, rfl, h1, h2⟩ := ARs.cons h
    obtain ⟨m1, m2, rfl, h3, h4⟩ := ARs.split a h2
    exact ⟨x :: m1, m2, rfl, ⟨h1, h3⟩, h4⟩
theorem ARs.rev {ρ : Nat → Int} {α Γ : Nat → Nat} : ∀ {a : List AV} {m : List MV}, ARs ρ α Γ a m → ARs ρ α Γ a.reverse m.reverse
  | [], [], _ => trivial
  | [], _ :: _, h => h.elim
  | _ :: _, [], h => h.elim
  | v :: a, x :: m, h => by
    rw [List.reverse_cons, List.reverse_cons]
    exact ARs.app (ARs.rev h.2) ⟨h.1, trivial⟩
/-- the contract's names stand for the arguments -/
def LK (ρ : Nat → Int) (α : Nat → Nat) (ρc : Nat → Int) (αc : Nat → Nat) (vs : List AV) : Prop := ∀ (i : Nat) (u : AV), vs[i]? = some u → (isI u = true → ρc i = iv ρ u) ∧ (u.1 = 2 → αc i = α u.2.1)
def subK (vs : List AV) (w v : AV) : AV := match v.1 with
  | 0 => v
  | 1 => cond (Nat.beq v.2.1 vs.length) (offV w v.2.2.2) (match vs[v.2.1]? with
    | some u => offV u v.2.2.2
    | none => aD)
  | 4 => v
  | _ => (match vs[v.2.1]? with
    | some u => (2, u.2.1, u.2.2.1, 0)
    | none => aD)
def wfK (vs : List AV) (w v : AV) : Bool := match v.1 with
  | 0 => true
  | 1 => cond (Nat.beq v.2.1 vs.length) (isI w) (match vs[v.2.1]? with
    | some u => isI u
    | none => false)
  | 2 => (match vs[v.2.1]? with
    | some u => Nat.beq u.1 2
    | none => false)
  | 4 => true
  | _ => false
theorem isI_off {v : AV} {c : Int} : isI (offV v c) = isI v := rfl
theorem subK_ok {ρ : Nat → Int} {α : Nat → Nat} {ρc : Nat → Int} {αc : Nat → Nat} {vs : List AV} {w v : AV} {x : Int} (hL : LK ρ α ρc αc vs) (hw : isI w = true → iv ρ w = x) (h : wfK vs w v = true) : valO ρ α (subK vs w v) = valO (upI ρc vs.length x) αc v := by
  obtain ⟨t, i, a, c⟩ := v
  match t, h with
  | 0, _ => rfl
  | 1, h =>
    have h : cond (Nat.beq i vs.length) (isI w) (match vs[i]? with
      | some u => isI u
      | none => false) = true := h
    show valO ρ α (cond (Nat.beq i vs.length) (offV w c) (match vs[i]? with
      | some u => offV u c
      | none => aD)) = vi (upI ρc vs.length x i + c)
    unfold upI
    cases hb : Nat.beq i vs.length with
    | true =>
      rw [hb, cond_true] at h
      rw [cond_true, if_pos (beq_iff.mp hb), valO_int (by rw [isI_off]; exact h), iv_off, hw h]
    | false =>
      rw [hb, cond_false] at h
      rw [cond_false, if_neg (fun q => by rw [beq_iff.mpr q] at hb; cases hb)]
      split at h
      · rename_i u hu
        rw [valO_int (by rw [isI_off]; exact h), iv_off, (hL i u hu).1 h]
      · cases h
  | 2, h =>
    have h : (match vs[i]? with
      | some u => Nat.beq u.1 2
      | none => false) = true := h
    show valO ρ α (match vs[i]? with
      | some u => (2, u.2.1, u.2.2.1, 0)
      | none => aD) = vr (αc i)
    split at h
    · rename_i u hu
      rw [(hL i u hu).2 (beq_iff.mp h)]
      rfl
    · cases h
  | 3, h => cases (show false = true from h)
  | 4, _ => rfl
  | t + 5, h => cases (show false = true from h)
def wfP (vs : List AV) (w : AV) (ps : List PFE) : Bool := ps.all fun p => p.2.all (wfK vs w)
def subP (vs : List AV) (w : AV) (ps : List PFE) : List PFE := ps.map fun p => (p.1, p.2.map (subK vs w))
theorem subP_map {ρ : Nat → Int} {α : Nat → Nat} {ρc : Nat → Int} {αc : Nat → Nat} {vs : List AV} {w : AV} {x : Int} (hL : LK ρ α ρc αc vs) (hw : isI w = true → iv ρ w = x) {ps : List PFE} (h : wfP vs w ps = true) {p : PFE} (hp : p ∈ ps) : (p.2.map (subK vs w)).map (valO ρ α) = p.2.map (valO (upI ρc vs.length x) αc) := by
  unfold wfP at h
  rw [List.all_eq_true] at h
  have h2 := h p hp
  rw [List.all_eq_true] at h2
  rw [List.map_map]
  apply List.map_congr_left
  intro v hv
  exact subK_ok hL hw (h2 v hv)
theorem subP_ok {PS : PST} {ρ : Nat → Int} {α Γ : Nat → Nat} {M : MM} {ρc : Nat → Int} {αc : Nat → Nat} {vs : List AV} {w : AV} {x : Int} (hL : LK ρ α ρc αc vs) (hw : isI w = true → iv ρ w = x) {ps : List PFE} (h : wfP vs w ps = true) : PFs PS ρ α Γ M (subP vs w ps) ↔ PFs PS (upI ρc vs.length x) αc Γ M ps := by
  constructor
  · intro q p hp
    have := q (p.1, p.2.map (subK vs w)) (List.mem_map.mpr ⟨p, hp, rfl⟩)
    rw [← subP_map hL hw h hp]
    exact this
  · intro q p hp
    obtain ⟨p0, h1, rfl⟩ := List.mem_map.mp hp
    have := q p0 h1
    rw [← subP_map hL hw h h1] at this
    exact this
/-- a field's fact out of a cell that is known -/
def drv (C : BC) (MF : List MFE) (p : PFE) : Bool := match p.2 with
  | [a, l, h] => (Nat.beq a.1 2 && (Nat.beq l.1 0 && Nat.beq h.1 0)) && (MF.any fun f => (Nat.beq f.1 a.2.1 && (Nat.beq f.2.2.1.1 0 && (ltB f.2.2.1.2.2.2 64 && Nat.beq p.1 (fId f.2.1 f.2.2.1.2.2.2.toNat)))) && (isI f.2.2.2 && (not (ltB (ivl C f.2.2.2).1 l.2.2.2) && not (ltB h.2.2.2 (ivl C f.2.2.2).2))))
  | _ => false
theorem drv_ok {PS : PST} (hW : PSfw PS) {C : BC} {MF : List MFE} {p : PFE} {ρ : Nat → Int} {α Γ : Nat → Nat} {M : MM} (hC : BO ρ C) (hM : MFs ρ α Γ M MF) (h : drv C MF p = true) : PS p.1 (p.2.map (valO ρ α)) Γ M := by
  unfold drv at h
  split at h
  · rename_i a l h3 hl
    obtain ⟨h1, h2⟩ := bb2 h
    obtain ⟨b1, h1⟩ := bb2 h1
    obtain ⟨b2, b3⟩ := bb2 h1
    rw [List.any_eq_true] at h2
    obtain ⟨f, hf, h2⟩ := h2
    obtain ⟨c1, c2⟩ := bb2 h2
    obtain ⟨c1, c3⟩ := bb2 c1
    obtain ⟨c3, c4⟩ := bb2 c3
    obtain ⟨c4, c5⟩ := bb2 c4
    obtain ⟨c2, c6⟩ := bb2 c2
    rw [Bool.and_eq_true, Bool.not_eq_true', Bool.not_eq_true', ltB_f, ltB_f] at c6
    rw [ltB_iff] at c4
    obtain ⟨g1, g2, g3, g4, g5⟩ := hM f hf
    rcases g5 with ⟨-, g5⟩ | ⟨g5, -⟩
    · have hi := ivl_ok hC c2
      rw [iv_c c3] at g4 g5
      have q := hW f.2.1 f.2.2.1.2.2.2.toNat (α f.1) l.2.2.2 h3.2.2.2 Γ M (by omega) g1 g2 (by rw [g5]; omega) (by rw [g5]; omega)
      rw [hl, beq_iff.mp c5]
      have e1 : valO ρ α a = vr (α f.1) := by rw [valO_ref (beq_iff.mp b1), beq_iff.mp c1]
      have e2 : valO ρ α l = vi l.2.2.2 := valO_c (beq_iff.mp b2)
      have e3 : valO ρ α h3 = vi h3.2.2.2 := valO_c (beq_iff.mp b3)
      show PS _ [valO ρ α a, valO ρ α l, valO ρ α h3] Γ M
      rw [e1, e2, e3]
      exact q
    · rw [c2] at g5; cases g5
  · cases h
/-- fact 10 (place, cell, number), fact 11 (place, cell, place): what lies there -/
def PSce (PS : PST) : Prop := ∀ (a : Nat) (i x : Int) (Γ : Nat → Nat) (M : MM), 0 ≤ i → M.2.2.2.2 a i.toNat = x → PS 10 [vr a, vi i, vi x] Γ M
def PSre (PS : PST) : Prop := ∀ (a b : Nat) (i : Int) (Γ : Nat → Nat) (M : MM), 0 ≤ i → M.2.2.2.1 a i.toNat = some b → PS 11 [vr a, vi i, vr b] Γ M
def PSw (PS : PST) : Prop := PSfw PS ∧ PSce PS ∧ PSre PS
def drvC (MF : List MFE) (p : PFE) : Bool := match p.1, p.2 with
  | 10, [a, i, v] => Nat.beq a.1 2 && MF.any fun f => (Nat.beq f.1 a.2.1 && (isI i && isI v)) && (isI f.2.2.2 && (avEq f.2.2.1 i && avEq f.2.2.2 v))
  | 11, [a, i, b] => (Nat.beq a.1 2 && Nat.beq b.1 2) && MF.any fun f => (Nat.beq f.1 a.2.1 && isI i) && (Nat.beq f.2.2.2.1 2 && (avEq f.2.2.1 i && Nat.beq f.2.2.2.2.1 b.2.1))
  | _, _ => false
theorem drvC_ok {PS : PST} (hW : PSw PS) {MF : List MFE} {p : PFE} {ρ : Nat → Int} {α Γ : Nat → Nat} {M : MM} (hM : MFs ρ α Γ M MF) (h : drvC MF p = true) : PS p.1 (p.2.map (valO ρ α)) Γ M := by
  unfold drvC at h
  split at h
  · rename_i a i v hid hl
    obtain ⟨h1, h2⟩ := bb2 h
    rw [List.any_eq_true] at h2
    obtain ⟨f, hf, h2⟩ := h2
    obtain ⟨c1, c2⟩ := bb2 h2
    obtain ⟨c1, c3⟩ := bb2 c1
    obtain ⟨c3, c4⟩ := bb2 c3
    obtain ⟨c2, c5⟩ := bb2 c2
    obtain ⟨c5, c6⟩ := bb2 c5
    obtain ⟨g1, g2, g3, g4, g5⟩ := hM f hf
    rw [hid, hl]
    show PS 10 [valO ρ α a, valO ρ α i, valO ρ α v] Γ M
    rw [valO_ref (beq_iff.mp h1), valO_int c3, valO_int c4, ← beq_iff.mp c1, ← avEq_iv c5, ← avEq_iv c6]
    rcases g5 with ⟨-, g5⟩ | ⟨g5, -⟩
    · exact hW.2.1 _ _ _ _ _ g4 g5
    · rw [c2] at g5; cases g5
  · rename_i a i b hid hl
    obtain ⟨h1, h2⟩ := bb2 h
    obtain ⟨h1, h3⟩ := bb2 h1
    rw [List.any_eq_true] at h2
    obtain ⟨f, hf, h2⟩ := h2
    obtain ⟨c1, c2⟩ := bb2 h2
    obtain ⟨c1, c3⟩ := bb2 c1
    obtain ⟨c2, c5⟩ := bb2 c2
    obtain ⟨c5, c6⟩ := bb2 c5
    obtain ⟨g1, g2, g3, g4, g5⟩ := hM f hf
    rw [hid, hl]
    show PS 11 [valO ρ α a, valO ρ α i, valO ρ α b] Γ M
    rw [valO_ref (beq_iff.mp h1), valO_int c3, valO_ref (beq_iff.mp h3), ← beq_iff.mp c1, ← avEq_iv c5, ← beq_iff.mp c6]
    rcases g5 with ⟨g5, -⟩ | ⟨-, g5⟩
    · unfold isI at g5; rw [beq_iff.mp c2] at g5; cases g5
    · have := (g5.ref (beq_iff.mp c2)).1
      exact hW.2.2 _ _ _ _ _ g4 (Sum.inr.inj (Sum.inr.inj this))
  · cases h
def allD (C : BC) (MF : List MFE) (ps PF : List PFE) : Bool := ps.all fun p => (PF.any fun q => decide (q = p)) || (drv C MF p || drvC MF p)
theorem allD_ok {PS : PST} (hW : PSw PS) {C : BC} {MF : List MFE} {ρ : Nat → Int} {α Γ : Nat → Nat} {M : MM} {ps PF : List PFE} (hC : BO ρ C) (hM : MFs ρ α Γ M MF) (h : allD C MF ps PF = true) (r : PFs PS ρ α Γ M PF) : PFs PS ρ α Γ M ps := by
  intro p hp
  unfold allD at h
  rw [List.all_eq_true] at h
  have := h p hp
  rw [Bool.or_eq_true] at this
  rcases this with this | this
  · rw [List.any_eq_true] at this
    obtain ⟨q, h1, h2⟩ := this
    have e : q = p := of_decide_eq_true h2
    rw [← e]
    exact r q h1
  · rw [Bool.or_eq_true] at this
    rcases this with this | this
    · exact drv_ok hW.1 hC hM this
    · exact drvC_ok hW hM this
/-- all of ps are among PF -/
def allP (ps PF : List PFE) : Bool := ps.all fun p => PF.any fun q => decide (q = p)
theorem allP_ok {PS : PST} {ρ : Nat → Int} {α Γ : Nat → Nat} {M : MM} {ps PF : List PFE} (h : allP ps PF = true) (r : PFs PS ρ α Γ M PF) : PFs PS ρ α Γ M ps := by
  intro p hp
  unfold allP at h
  rw [List.all_eq_true] at h
  have := h p hp
  rw [List.any_eq_true] at this
  obtain ⟨q, h1, h2⟩ := this
  have e : q = p := of_decide_eq_true h2
  rw [← e]
  exact r q h1
/-- an argument is what the contract wants -/
def argB (C B : BC) (i : Nat) (v a : AV) : Bool := match a.1 with
  | 1 => (Nat.beq a.2.1 i && eqB a.2.2.2 0) && (isI v && (not (ltB (ivl C v).1 (bnd B i).1) && not (ltB (bnd B i).2 (ivl C v).2)))
  | 2 => Nat.beq a.2.1 i && ((Nat.beq v.1 2 && Nat.beq v.2.2.1 a.2.2.1) && (not (ltB 0 (bnd B i).1) && not (ltB (bnd B i).2 0)))
  | 4 => (isL v && Nat.beq a.2.2.1 0) && (not (ltB 0 (bnd B i).1) && not (ltB (bnd B i).2 0))
  | _ => false
def argK (C B : BC) : Nat → List AV → List AV → Bool
  | i, v :: vs, a :: as => argB C B i v a && argK C B (i + 1) vs as
  | _, [], [] => true
  | _, _, _ => false
def rhoC (ρ : Nat → Int) (vs : List AV) (i : Nat) : Int := match vs[i]? with
  | some u => cond (isI u) (iv ρ u) 0
  | none => 0
def alC (α : Nat → Nat) (vs : List AV) (i : Nat) : Nat := match vs[i]? with
  | some u => α u.2.1
  | none => 0
theorem LK_C (ρ : Nat → Int) (α : Nat → Nat) (vs : List AV) : LK ρ α (rhoC ρ vs) (alC α vs) vs := by
  intro i u hu
  unfold rhoC alC
  rw [hu]
  exact ⟨fun h => (by show cond (isI u) (iv ρ u) 0 = _; rw [h, cond_true]), fun _ => rfl⟩
theorem argB_ok {C B : BC} {ρ : Nat → Int} {α Γ : Nat → Nat} {i : Nat} {v a : AV} {m : MV} {ρc : Nat → Int} {αc : Nat → Nat} (hC : BO ρ C) (h : argB C B i v a = true) (r : AR ρ α Γ v m) (h1 : ρc i = cond (isI v) (iv ρ v) 0) (h2 : αc i = α v.2.1) : AR ρc αc Γ a m ∧ (bnd B i).1 ≤ ρc i ∧ ρc i ≤ (bnd B i).2 := by
  obtain ⟨t, j, τ, c⟩ := a
  match t, h with
  | 0, h => cases (show false = true from h)
  | 1, h =>
    obtain ⟨g1a, g2a⟩ := bb2 (show ((Nat.beq j i && eqB c 0) && (isI v && (not (ltB (ivl C v).1 (bnd B i).1) && not (ltB (bnd B i).2 (ivl C v).2)))) = true from h)
    obtain ⟨g1, g3⟩ := bb2 g1a
    obtain ⟨g2, g4a⟩ := bb2 g2a
    obtain ⟨g4, g5⟩ := bb2 g4a
    rw [Bool.not_eq_true', ltB_f] at g4 g5
    rw [eqB_iff] at g3
    have hj := beq_iff.mp g1
    subst hj
    subst g3
    have hb := ivl_ok hC g2
    rw [g2, cond_true] at h1
    rw [r.int g2]
    refine ⟨?_, by omega, by omega⟩
    show vi (iv ρ v) = vi (ρc j + 0)
    rw [h1, Int.add_zero]
  | 2, h =>
    obtain ⟨g1, g2a⟩ := bb2 (show (Nat.beq j i && ((Nat.beq v.1 2 && Nat.beq v.2.2.1 τ) && (not (ltB 0 (bnd B i).1) && not (ltB (bnd B i).2 0)))) = true from h)
    obtain ⟨g2b, g4a⟩ := bb2 g2a
    obtain ⟨g2, g3⟩ := bb2 g2b
    obtain ⟨g4, g5⟩ := bb2 g4a
    rw [Bool.not_eq_true', ltB_f] at g4 g5
    have hj := beq_iff.mp g1
    subst hj
    have hv := beq_iff.mp g2
    have hni : isI v = false := by unfold isI; rw [hv]; rfl
    rw [hni, cond_false] at h1
    obtain ⟨rfl, q1, q2⟩ := r.ref hv
    rw [beq_iff.mp g3] at q1 q2
    refine ⟨?_, by omega, by omega⟩
    show vr (α v.2.1) = vr (αc j) ∧ Γ (αc j) = τ ∧ τ ≠ 0
    rw [h2]
    exact ⟨rfl, q1, q2⟩
  | 3, h => cases (show false = true from h)
  | 4, h =>
    obtain ⟨g1, g4⟩ := bb2 (show ((isL v && Nat.beq τ 0) && (not (ltB 0 (bnd B i).1) && not (ltB (bnd B i).2 0))) = true from h)
    obtain ⟨g1, g3⟩ := bb2 g1
    obtain ⟨g4, g5⟩ := bb2 g4
    rw [Bool.not_eq_true', ltB_f] at g4 g5
    have hv : v.1 = 4 := beq_iff.mp g1
    have hni : isI v = false := by unfold isI; rw [hv]; rfl
    rw [hni, cond_false] at h1
    obtain ⟨x, rfl, -⟩ := r.lng g1
    have g3 := beq_iff.mp g3
    refine ⟨⟨fun q => ?_, x, rfl, fun q => ?_⟩, by omega, by omega⟩
    · have q : τ = 2 := q
      omega
    · have q : τ = 1 := q
      omega
  | t + 5, h => cases (show false = true from h)
theorem argK_ok {C B : BC} {ρ : Nat → Int} {α Γ : Nat → Nat} {ρc : Nat → Int} {αc : Nat → Nat} (hC : BO ρ C) : ∀ (i : Nat) (vs as : List AV) (ms : List MV), argK C B i vs as = true → ARs ρ α Γ vs ms → (∀ j v, vs[j]? = some v → ρc (i + j) = cond (isI v) (iv ρ v) 0 ∧ αc (i + j) = α v.2.1) → ARs ρc αc Γ as ms ∧ ∀ j, j < vs.length → (bnd B (i + j)).1 ≤ ρc (i + j) ∧ ρc (i + j) ≤ (bnd B (i + j)).2
  | _, [], [], ms, _, r, _ => ⟨by rw [r.nil]; trivial, fun j hj => absurd hj (Nat.not_lt_zero j)⟩
  | _, [], _ :: _, _, h, _, _ => by cases h
  | _, _ :: _, [], _, h, _, _ => by cases h
  | i, v :: vs, a :: as, ms, h, r, hl => by
    obtain ⟨h1, h2⟩ := bb2 (show (argB C B i v a && argK C B (i + 1) vs as) = true from h)
    obtain ⟨m, t, rfl, r1, r2⟩ := ARs.cons r
    obtain ⟨q1, q2⟩ := argB_ok hC h1 r1 (hl 0 v rfl).1 (hl 0 v rfl).2
    obtain ⟨q3, q4⟩ := argK_ok hC (i + 1) vs as t h2 r2 (fun j u hu => by
      have := hl (j + 1) u hu
      rw [show i + 1 + j = i + (j + 1) by omega]
      exact this)
    refine ⟨⟨q1, q3⟩, fun j hj => ?_⟩
    cases j with
    | zero => exact q2
    | succ j =>
      have := q4 j (Nat.lt_of_succ_lt_succ hj)
      rw [show i + 1 + j = i + (j + 1) by omega] at this
      exact this
section
variable {Y : Nat → TYE} {PS : PST} {dep : Nat → List EF} {E : List EF} {Γ0 : Nat → Nat} {M0 : MM} {d k : Nat} {Post : Option MV → MM → Prop} {go : GE} {n : Nat}
variable {pc len a1 a2 a3 : Nat} {i : Instr} {r : List OE} {S : SE}
def addP (ps : List PFE) (vs : List AV) (w : AV) (S3 : S3T) : S3T := (S3.1, S3.2.1, S3.2.2.1, subP vs w ps ++ S3.2.2.2.1, S3.2.2.2.2)
def narC (vs : List AV) (C : BC) (c : Nat × Int × Int) : BC := match vs[c.1]? with
  | some v => cond (isI v) (narV C v (mxB c.2.1 (ivl C v).1, mnB c.2.2 (ivl C v).2)) C
  | none => C
theorem narC_ok {ρ : Nat → Int} {ρc : Nat → Int} {α αc : Nat → Nat} {vs : List AV} (hL : LK ρ α ρc αc vs) : ∀ (l : List (Nat × Int × Int)) (C : BC), BO ρ C → (∀ b ∈ l, b.2.1 ≤ ρc b.1 ∧ ρc b.1 ≤ b.2.2) → BO ρ (l.foldl (narC vs) C)
  | [], C, h, _ => h
  | b :: l, C, h, hb => by
    rw [List.foldl_cons]
    refine narC_ok hL l _ ?_ (fun c hc => hb c (List.mem_cons_of_mem _ hc))
    unfold narC
    split
    · rename_i v hv
      cases hI : isI v with
      | false => exact h
      | true =>
        have q := hb b List.mem_cons_self
        rw [(hL b.1 v hv).1 hI] at q
        have hi := ivl_ok h hI
        exact narV_ok h hI (mxB_le q.1 hi.1) (le_mnB q.2 hi.2)
    · exact h
def e_cnd (c : CND) (vs : List AV) (w : AV) (rest ls : List AV) (S3 : S3T) (go : GE) (n : Nat) : Bool :=
  wfP vs w c.2 && (emB (c.1.foldl (narC vs) S3.1) || go (n + 1) (ls, w :: rest, addP c.2 vs w (c.1.foldl (narC vs) S3.1, S3.2)))
def e_res (t : KT) (vs rest ls : List AV) (S3 : S3T) (go : GE) (n : Nat) : Bool := match (kRes t).1 with
  | 0 => wfP vs aD (kPost t) && go (n + 1) (ls, rest, addP (kPost t) vs aD S3)
  | 1 => vs.all (nfI S3.1.length) && nmI (kRes t).2 (ls, rest, S3) (fun w S2 => wfP vs w (kPost t) && go (n + 1) (ls, w :: rest, addP (kPost t) vs w S2.2.2))
  | 2 => e_cnd (kT t) vs (aC 1) rest ls S3 go n && e_cnd (kF t) vs (aC 0) rest ls S3 go n
  | _ => go (n + 1) (ls, aL :: rest, S3)
theorem cnd_ok {c : CND} {vs rest ls : List AV} {x : Int} {S3 : S3T} {ρ : Nat → Int} {α Γ : Nat → Nat} {M : MM} {ls2 t2 : List MV} {ρc : Nat → Int} {αc : Nat → Nat} (h : e_cnd c vs (aC x) rest ls S3 go n = true) (hL : LK ρ α ρc αc vs) (hc : CNDok PS ρc αc Γ M c) (hx : wfP vs aD c.2 = true) (r : REL Y PS E Γ0 M0 ρ α Γ M (ls, rest, S3) ls2 t2) : ∃ S1, go (n + 1) S1 = true ∧ REL Y PS E Γ0 M0 ρ α Γ M S1 ls2 (vi x :: t2) := by
  obtain ⟨h1, h2⟩ := bb2 h
  have hb := narC_ok hL c.1 _ r.2.1 hc.1
  rw [emB_ok hb, Bool.false_or] at h2
  refine ⟨_, h2, r.1, hb, r.2.2.1, ⟨rfl, r.2.2.2.1⟩, r.2.2.2.2.1, fun p hp => ?_, r.2.2.2.2.2.2⟩
  rcases List.mem_append.mp (show p ∈ subP vs (aC x) c.2 ++ S3.2.2.2.1 from hp) with h9 | h9
  · have h10 : PFs PS (upI ρc vs.length x) αc Γ M c.2 := by
      intro p hp
      have := hc.2 p hp
      -- no fact of a condition names the result
      have e : p.2.map (valO (upI ρc vs.length x) αc) = p.2.map (valO ρc αc) := by
        apply List.map_congr_left
        intro v hv
        unfold wfP at hx
        rw [List.all_eq_true] at hx
        have q := hx p hp
        rw [List.all_eq_true] at q
        have q := q v hv
        obtain ⟨tg, j, a, b⟩ := v
        match tg, q with
        | 0, _ => rfl
        | 1, q =>
          have q : cond (Nat.beq j vs.length) (isI aD) (match vs[j]? with
            | some u => isI u
            | none => false) = true := q
          show vi (upI ρc vs.length x j + b) = vi (ρc j + b)
          unfold upI
          cases hb : Nat.beq j vs.length with
          | true => rw [hb, cond_true] at q; cases (show false = true from q)
          | false => rw [if_neg (fun q => by rw [beq_iff.mpr q] at hb; cases hb)]
        | 2, _ => rfl
        | 3, q => cases (show false = true from q)
        | 4, _ => rfl
        | t + 5, q => cases (show false = true from q)
      rw [e]
      exact this
    exact ((subP_ok (PS := PS) hL (fun _ => rfl) h1).mpr h10) p h9
  · exact r.2.2.2.2.2.1 p h9
end
/-! lemmas: what facts tell of one another -/
def idsL (t : KT) : Bool := ((kPre t).all fun p => Nat.ble 2 p.1) && ((kT t).2.all fun p => Nat.ble 2 p.1)
def LOK (Y : Nat → TYE) (PS : PST) (t : KT) : Prop := ∀ (ρ : Nat → Int) (α Γ : Nat → Nat) (M : MM) (as : List MV), HTy Y Γ M → BO ρ (kB t) → ARs ρ α Γ (kArgs t) as → PFs PS ρ α Γ M (kPre t) → CNDok PS ρ α Γ M (kT t)
/-- a lemma used where it may be -/
def e_lem (t : KT) (vs : List AV) (S : SE) (kk : SE → Bool) : Bool :=
  cond (((argK S.2.2.1 (kB t) 0 vs (kArgs t) && Nat.ble (kB t).length vs.length) && (Nat.beq vs.length (kArgs t).length && idsL t)) && ((wfP vs aD (kPre t) && wfP vs aD (kT t).2) && allD S.2.2.1 S.2.2.2.2.1 (subP vs aD (kPre t)) S.2.2.2.2.2.1))
    (emB ((kT t).1.foldl (narC vs) S.2.2.1) || kk (S.1, S.2.1, addP (kT t).2 vs aD ((kT t).1.foldl (narC vs) S.2.2.1, S.2.2.2))) (kk S)
theorem upI_self {ρ : Nat → Int} {n : Nat} : upI ρ n (ρ n) = ρ := by
  funext j
  unfold upI
  split
  · rename_i hj
    rw [hj]
  · rfl
theorem e_lem_ok {Y : Nat → TYE} {PS : PST} {E : List EF} {Γ0 : Nat → Nat} {M0 : MM} (hW : PSw PS) {t : KT} (hK : idsL t = true → LOK Y PS t) {vs : List AV} {S : SE} {kk : SE → Bool} {ρ : Nat → Int} {α Γ : Nat → Nat} {M : MM} {ls2 st2 : List MV} (h : e_lem t vs S kk = true) (hv : ∃ ms, ARs ρ α Γ vs ms) (r : REL Y PS E Γ0 M0 ρ α Γ M S ls2 st2) : ∃ S1, kk S1 = true ∧ REL Y PS E Γ0 M0 ρ α Γ M S1 ls2 st2 := by
  unfold e_lem at h
  cases hc : (((argK S.2.2.1 (kB t) 0 vs (kArgs t) && Nat.ble (kB t).length vs.length) && (Nat.beq vs.length (kArgs t).length && idsL t)) && ((wfP vs aD (kPre t) && wfP vs aD (kT t).2) && allD S.2.2.1 S.2.2.2.2.1 (subP vs aD (kPre t)) S.2.2.2.2.2.1)) with
  | false =>
    rw [hc, cond_false] at h
    exact ⟨S, h, r⟩
  | true =>
    rw [hc, cond_true] at h
    obtain ⟨c1, c2⟩ := bb2 hc
    obtain ⟨c1, c3⟩ := bb2 c1
    obtain ⟨harg, hbl⟩ := bb2 c1
    obtain ⟨c3, hid⟩ := bb2 c3
    obtain ⟨c2, hall⟩ := bb2 c2
    obtain ⟨hwp, hwT⟩ := bb2 c2
    have hbl := ble_iff.mp hbl
    obtain ⟨ms, hms⟩ := hv
    have hL := LK_C ρ α vs
    obtain ⟨ha, hb⟩ := argK_ok (ρc := rhoC ρ vs) (αc := alC α vs) r.2.1 0 vs (kArgs t) ms harg hms (fun j v hv => by
      rw [Nat.zero_add]
      unfold rhoC alC
      rw [hv]
      exact ⟨rfl, rfl⟩)
    have hBO : BO (rhoC ρ vs) (kB t) := by
      intro i
      by_cases hi : i < vs.length
      · have := hb i hi
        rw [Nat.zero_add] at this
        exact this
      · have e1 : rhoC ρ vs i = 0 := by
          unfold rhoC
          rw [List.getElem?_eq_none (by omega)]
        have e2 : bnd (kB t) i = (-2147483648, 2147483647) := by
          unfold bnd
          rw [List.getD_eq_getElem?_getD, List.getElem?_eq_none (by omega)]
          rfl
        rw [e1, e2]
        exact ⟨by show (-2147483648 : Int) ≤ 0; omega, by show (0 : Int) ≤ 2147483647; omega⟩
    have hp0 : PFs PS (rhoC ρ vs) (alC α vs) Γ M (kPre t) := by
      have q := allD_ok hW r.2.1 r.2.2.2.2.1 hall r.2.2.2.2.2.1
      have q2 := (subP_ok (PS := PS) (x := rhoC ρ vs vs.length) hL (fun q => (by cases (show false = true from q))) hwp).mp q
      rw [upI_self] at q2
      exact q2
    have hcnd := hK hid (rhoC ρ vs) (alC α vs) Γ M ms r.1 hBO ha hp0
    have hb2 := narC_ok hL (kT t).1 _ r.2.1 hcnd.1
    rw [emB_ok hb2, Bool.false_or] at h
    refine ⟨_, h, r.1, hb2, r.2.2.1, r.2.2.2.1, r.2.2.2.2.1, fun p hp => ?_, r.2.2.2.2.2.2⟩
    rcases List.mem_append.mp (show p ∈ subP vs aD (kT t).2 ++ S.2.2.2.2.2.1 from hp) with h9 | h9
    · refine ((subP_ok (PS := PS) (x := rhoC ρ vs vs.length) hL (fun q => (by cases (show false = true from q))) hwT).mpr ?_) p h9
      rw [upI_self]
      exact hcnd.2
    · exact r.2.2.2.2.2.1 p h9
/-- a number that a fact speaks of -/
def srcF (S : SE) (id j : Nat) : AV := match S.2.2.2.2.2.1.find? fun p => Nat.beq p.1 id with
  | some p => cond (isI (p.2.getD j aD)) (p.2.getD j aD) aD
  | none => aD
/-- a value by its way: a local (from 500 on a place of the stack, from 100000 on a fact's number), then fields -/
def srcB (S : SE) (j : Nat) : AV := cond (Nat.ble 100000 j) (srcF S ((j - 100000) / 20) ((j - 100000) % 20)) (cond (Nat.ble 500 j) (S.2.1.getD (j - 500) aD) (S.1.getD j aD))
def srcS (S : SE) (v : AV) (f : Nat) : AV := match fdM S.2.2.2.2.1 v.2.1 (aC (Int.ofNat f)) with
  | some w => cond (Nat.beq v.1 2) w aD
  | none => aD
def srcP (S : SE) (l : List Nat) : AV := match l with
  | [] => aD
  | j :: fs => fs.foldl (srcS S) (srcB S j)
theorem srcP_ok {Y : Nat → TYE} {PS : PST} {E : List EF} {Γ0 : Nat → Nat} {M0 : MM} {S : SE} {ρ : Nat → Int} {α Γ : Nat → Nat} {M : MM} {ls2 st2 : List MV} (r : REL Y PS E Γ0 M0 ρ α Γ M S ls2 st2) (l : List Nat) : ∃ m, AR ρ α Γ (srcP S l) m := by
  have hd : ∃ m, AR ρ α Γ aD m := ⟨vn, trivial⟩
  have g1 : ∀ (vs : List AV) (ms : List MV) (j : Nat), ARs ρ α Γ vs ms → ∃ m, AR ρ α Γ (vs.getD j aD) m := by
    intro vs ms j h
    cases hq : vs[j]? with
    | none => rw [List.getD_eq_getElem?_getD, hq]; exact hd
    | some v =>
      obtain ⟨m, -, q⟩ := h.get j hq
      rw [List.getD_eq_getElem?_getD, hq]
      exact ⟨m, q⟩
  match l with
  | [] => exact hd
  | j :: fs =>
    show ∃ m, AR ρ α Γ (fs.foldl (srcS S) (srcB S j)) m
    have h0 : ∃ m, AR ρ α Γ (srcB S j) m := by
      unfold srcB
      cases Nat.ble 100000 j with
      | true =>
        show ∃ m, AR ρ α Γ (srcF S ((j - 100000) / 20) ((j - 100000) % 20)) m
        generalize (j - 100000) / 20 = id
        generalize (j - 100000) % 20 = q
        unfold srcF
        split
        · rename_i p _
          cases hc : isI (p.2.getD q aD) with
          | true => exact ⟨_, AR.ofI hc⟩
          | false => exact hd
        · exact hd
      | false =>
        cases Nat.ble 500 j with
        | true => exact g1 _ _ _ r.2.2.2.1
        | false => exact g1 _ _ _ r.2.2.1
    generalize srcB S j = v at h0
    induction fs generalizing v with
    | nil => exact h0
    | cons f fs ih =>
      rw [List.foldl_cons]
      refine ih _ ?_
      unfold srcS
      split
      · rename_i w hw
        cases Nat.beq v.1 2 with
        | false => exact hd
        | true =>
          rcases fdM_ok r.2.2.2.2.1 hw with ⟨q1, -⟩ | ⟨-, q2⟩
          · exact ⟨_, AR.ofI q1⟩
          · exact ⟨_, q2⟩
      · exact hd
theorem srcPs_ok {Y : Nat → TYE} {PS : PST} {E : List EF} {Γ0 : Nat → Nat} {M0 : MM} {S : SE} {ρ : Nat → Int} {α Γ : Nat → Nat} {M : MM} {ls2 st2 : List MV} (r : REL Y PS E Γ0 M0 ρ α Γ M S ls2 st2) : ∀ l : List (List Nat), ∃ ms, ARs ρ α Γ (l.map (srcP S)) ms
  | [] => ⟨[], trivial⟩
  | p :: l => by
    obtain ⟨m, q⟩ := srcP_ok r p
    obtain ⟨ms, q2⟩ := srcPs_ok r l
    exact ⟨m :: ms, q, q2⟩
/-- lemmas one behind the other, then on -/
def e_lems (L : List (KT × List (List Nat))) (kk : SE → Bool) (S : SE) : Bool := match L with
  | [] => kk S
  | p :: r => e_lem p.1 (p.2.map (srcP S)) S (e_lems r kk)
theorem e_lems_ok {Y : Nat → TYE} {PS : PST} {E : List EF} {Γ0 : Nat → Nat} {M0 : MM} (hW : PSw PS) {kk : SE → Bool} {ρ : Nat → Int} {α Γ : Nat → Nat} {M : MM} {ls2 st2 : List MV} : ∀ (L : List (KT × List (List Nat))) {S : SE}, (∀ p ∈ L, idsL p.1 = true → LOK Y PS p.1) → e_lems L kk S = true → REL Y PS E Γ0 M0 ρ α Γ M S ls2 st2 → ∃ S1, kk S1 = true ∧ REL Y PS E Γ0 M0 ρ α Γ M S1 ls2 st2
  | [], _, _, h, r => ⟨_, h, r⟩
  | p :: L, S, hL, h, r => by
    obtain ⟨S1, q1, q2⟩ := e_lem_ok hW (hL p List.mem_cons_self) (show e_lem p.1 (p.2.map (srcP S)) S (e_lems L kk) = true from h) (srcPs_ok r _) r
    exact e_lems_ok hW L (fun p hp => hL p (List.mem_cons_of_mem _ hp)) q1 q2
