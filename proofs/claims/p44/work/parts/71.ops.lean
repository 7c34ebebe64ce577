/-! THE CHECKER: what goes on over the heap's frames; branches; numbers -/
def efDis (e f : EF) : Bool := not (Nat.beq e.1 f.1) || (Nat.ble e.2.2 f.2.1 || Nat.ble f.2.2 e.2.1)
/-- cells of E may be this one -/
def hitM (E : List EF) (f : MFE) : Bool := E.any fun e => Nat.beq e.1 f.2.1 && not (Nat.beq f.2.2.1.1 0 && (ltB f.2.2.1.2.2.2 (Int.ofNat e.2.1) || not (ltB f.2.2.1.2.2.2 (Int.ofNat e.2.2))))
def clM (E : List EF) (l : List MFE) : List MFE := l.filter fun f => not (hitM E f)
def clP (dep : Nat → List EF) (E : List EF) (l : List PFE) : List PFE := l.filter fun f => not (Nat.beq f.1 10 || Nat.beq f.1 11) && (dep f.1).all fun g => E.all fun e => efDis e g
def PSok (Y : Nat → TYE) (PS : PST) (dep : Nat → List EF) : Prop := ∀ (id : Nat) (l : List MV) (Γ Γ2 : Nat → Nat) (M M2 : MM) (E : List EF), (Nat.beq id 10 || Nat.beq id 11) = false → HTy Y Γ M → HTy Y Γ2 M2 → FRM E Γ M M2 → GEX M.1 Γ Γ2 → (∀ g ∈ dep id, ∀ e ∈ E, efDis e g = true) → PS id l Γ M → PS id l Γ2 M2
/-- how many places behind its first a fact leaves open: what is written there leaves it true -/
def nhF (id : Nat) : Nat := cond ((Nat.ble 60 id && Nat.ble id 66) || ((Nat.ble 86 id && Nat.ble id 92) || ((Nat.ble 200 id && Nat.ble id 299) || (Nat.ble 600 id && Nat.ble id 699)))) 1 (cond ((Nat.ble 67 id && Nat.ble id 69) || (Nat.ble 300 id && Nat.ble id 399)) 5 0)
def PSho (PS : PST) : Prop := ∀ (id a : Nat) (l : List MV) (i x : Int) (Γ : Nat → Nat) (s u : Nat) (K : Nat → Nat × Nat) (R : Nat → Nat → Option Nat) (I : Nat → Nat → Int), vi i ∈ l.take (nhF id) → 0 ≤ i → PS id (vr a :: l) Γ (s, u, K, R, I) → PS id (vr a :: l) Γ (s, u, K, R, up I a i.toNat x)
theorem AR.gex {Y : Nat → TYE} {Γ Γ2 : Nat → Nat} {M : MM} (hT : HTy Y Γ M) (hg : GEX M.1 Γ Γ2) {ρ : Nat → Int} {α : Nat → Nat} {v : AV} {m : MV} (r : AR ρ α Γ v m) : AR ρ α Γ2 v m := by
  obtain ⟨t, i, a, c⟩ := v
  match t, r with
  | 0, r => exact r
  | 1, r => exact r
  | 2, r =>
    have r : m = vr (α i) ∧ Γ (α i) = a ∧ a ≠ 0 := r
    have h := (hT (α i) (by rw [r.2.1]; exact r.2.2)).1
    exact ⟨r.1, (hg _ h).trans r.2.1, r.2.2⟩
  | 3, r =>
    have r : m = vn ∨ (m = vr (α i) ∧ Γ (α i) = a ∧ a ≠ 0) := r
    rcases r with r | r
    · exact Or.inl r
    · have h := (hT (α i) (by rw [r.2.1]; exact r.2.2)).1
      exact Or.inr ⟨r.1, (hg _ h).trans r.2.1, r.2.2⟩
  | 4, r => exact r
  | 5, r => exact r
  | 6, r => exact r
  | t + 7, _ => exact trivial
theorem MFok.frm {Y : Nat → TYE} {Γ Γ2 : Nat → Nat} {M M2 : MM} {E : List EF} (hT : HTy Y Γ M) (hF : FRM E Γ M M2) (hg : GEX M.1 Γ Γ2) {ρ : Nat → Int} {α : Nat → Nat} {f : MFE} (h : MFok ρ α Γ M f) (hh : hitM E f = false) : MFok ρ α Γ2 M2 f := by
  obtain ⟨h1, h2, h3, h4, h5⟩ := h
  have hl := (hT (α f.1) (by rw [h1]; exact h2)).1
  have hc := (hF.2 _ hl).2 (iv ρ f.2.2.1).toNat (fun e he q1 q2 q3 => by
    exfalso
    have hn : ∀ e ∈ E, ¬ (Nat.beq e.1 f.2.1 && not (Nat.beq f.2.2.1.1 0 && (ltB f.2.2.1.2.2.2 (Int.ofNat e.2.1) || not (ltB f.2.2.1.2.2.2 (Int.ofNat e.2.2))))) = true := by
      intro e he q
      have : hitM E f = true := List.any_eq_true.mpr ⟨e, he, q⟩
      rw [hh] at this
      cases this
    apply hn e he
    rw [beq_iff.mpr (show e.1 = f.2.1 by rw [← q1, h1])]
    show (not (Nat.beq f.2.2.1.1 0 && (ltB f.2.2.1.2.2.2 (Int.ofNat e.2.1) || not (ltB f.2.2.1.2.2.2 (Int.ofNat e.2.2))))) = true
    cases hz : Nat.beq f.2.2.1.1 0 with
    | false => rfl
    | true =>
      have e0 : iv ρ f.2.2.1 = f.2.2.1.2.2.2 := iv_c hz
      rw [e0] at q2 q3 h4
      have a1 : ltB f.2.2.1.2.2.2 (Int.ofNat e.2.1) = false := ltB_f.mpr (by simp only [Int.ofNat_eq_natCast]; omega)
      have a2 : ltB f.2.2.1.2.2.2 (Int.ofNat e.2.2) = true := (ltB_iff _ _).mpr (by simp only [Int.ofNat_eq_natCast]; omega)
      rw [a1, a2]
      rfl)
  refine ⟨(hg _ hl).trans h1, h2, h3, h4, ?_⟩
  rcases h5 with ⟨b1, b2⟩ | ⟨b1, b2⟩
  · exact Or.inl ⟨b1, hc.1.trans b2⟩
  · exact Or.inr ⟨b1, by rw [hc.2]; exact b2.gex hT hg⟩
theorem REL.frm {Y : Nat → TYE} {PS : PST} {dep : Nat → List EF} (hPS : PSok Y PS dep) {E E2 : List EF} {Γ0 : Nat → Nat} {M0 : MM} {ρ : Nat → Int} {α Γ Γ2 : Nat → Nat} {M M2 : MM} {ls st : List AV} {C : BC} {nv : Nat} {MF : List MFE} {PF : List PFE} {ao as da ds : Nat} {ls2 st2 : List MV}
    (r : REL Y PS E Γ0 M0 ρ α Γ M (ls, st, C, nv, MF, PF, ao, as) ls2 st2) (hT : HTy Y Γ2 M2) (hF : FRM E2 Γ M M2) (hg : GEX M.1 Γ Γ2) (hE : efsIn E2 E = true) (h1 : M2.1 ≤ M.1 + da) (h2 : M2.2.1 ≤ M.2.1 + ds) : REL Y PS E Γ0 M0 ρ α Γ2 M2 (ls, st, C, nv, clM E2 MF, clP dep E2 PF, ao + da, as + ds) ls2 st2 := by
  obtain ⟨r1, r2, r3, r4, r5, r6, r7, r8, r9, r10⟩ := r
  refine ⟨hT, r2, r3.imp fun v _ m h => h.gex r1 hg, r4.imp fun v _ m h => h.gex r1 hg, fun f hf => ?_, fun f hf => ?_, r7.trans r8 hF hE, fun a ha => (hg a (Nat.lt_of_lt_of_le ha r7.1)).trans (r8 a ha), ?_, ?_⟩
  · have hf : f ∈ MF.filter fun f => not (hitM E2 f) := hf
    rw [List.mem_filter] at hf
    exact (r5 f hf.1).frm r1 hF hg (by rw [← Bool.not_eq_true']; exact hf.2)
  · have hf : f ∈ PF.filter fun f => not (Nat.beq f.1 10 || Nat.beq f.1 11) && (dep f.1).all fun g => E2.all fun e => efDis e g := hf
    rw [List.mem_filter, Bool.and_eq_true, Bool.not_eq_true', List.all_eq_true] at hf
    exact hPS f.1 _ Γ Γ2 M M2 E2 hf.2.1 r1 hT hF hg (fun g hg2 e he => by
      have := hf.2.2 g hg2
      rw [List.all_eq_true] at this
      exact this e he) (r6 f hf.1)
  · have r9 : M.1 ≤ M0.1 + ao := r9
    show M2.1 ≤ M0.1 + (ao + da)
    omega
  · have r10 : M.2.1 ≤ M0.2.1 + as := r10
    show M2.2.1 ≤ M0.2.1 + (as + ds)
    omega
/-! one cell written -/
theorem FRM_up {Γ : Nat → Nat} {s u : Nat} {K : Nat → Nat × Nat} {R : Nat → Nat → Option Nat} {I : Nat → Nat → Int} {a j lo hi : Nat} {x : Int} (h1 : lo ≤ j) (h2 : j < hi) (h0 : Γ a ≠ 0) : FRM [(Γ a, lo, hi)] Γ (s, u, K, R, I) (s, u, K, R, up I a j x) := by
  refine ⟨Nat.le_refl _, fun b _ => ⟨rfl, fun i hi2 => ⟨?_, rfl⟩⟩⟩
  show up I a j x b i = I b i
  unfold up
  by_cases q : b = a ∧ i = j
  · exact absurd (hi2 (Γ a, lo, hi) List.mem_cons_self (by rw [q.1]) (by rw [q.2]; exact h1) (by rw [q.2]; exact h2)) (by rw [q.1]; exact h0)
  · rw [if_neg q]
theorem FRM_upR {Γ : Nat → Nat} {s u : Nat} {K : Nat → Nat × Nat} {R : Nat → Nat → Option Nat} {I : Nat → Nat → Int} {a j lo hi : Nat} {x : Option Nat} (h1 : lo ≤ j) (h2 : j < hi) (h0 : Γ a ≠ 0) : FRM [(Γ a, lo, hi)] Γ (s, u, K, R, I) (s, u, K, up R a j x, I) := by
  refine ⟨Nat.le_refl _, fun b _ => ⟨rfl, fun i hi2 => ⟨rfl, ?_⟩⟩⟩
  show up R a j x b i = R b i
  unfold up
  by_cases q : b = a ∧ i = j
  · exact absurd (hi2 (Γ a, lo, hi) List.mem_cons_self (by rw [q.1]) (by rw [q.2]; exact h1) (by rw [q.2]; exact h2)) (by rw [q.1]; exact h0)
  · rw [if_neg q]
/-- a number within p may lie in any cell from lo on to ahead of hi of the type -/
def fitI (T : TYE) (lo hi : Nat) (p : Int × Int) : Bool := T.2.2.1.all fun r => (Nat.ble r.2.1 lo || Nat.ble hi r.1) || (not (ltB p.1 r.2.2.1) && not (ltB r.2.2.2 p.2))
theorem HT_up {Y : Nat → TYE} {Γ : Nat → Nat} {s u : Nat} {K : Nat → Nat × Nat} {R : Nat → Nat → Option Nat} {I : Nat → Nat → Int} {a j lo hi : Nat} {x : Int} {p : Int × Int} (hT : HTy Y Γ (s, u, K, R, I)) (h1 : lo ≤ j) (h2 : j < hi) (hf : fitI (Y (Γ a)) lo hi p = true) (hx : p.1 ≤ x ∧ x ≤ p.2) : HTy Y Γ (s, u, K, R, up I a j x) := by
  intro b hb
  obtain ⟨t1, t2, t3, t4⟩ := hT b hb
  refine ⟨t1, t2, fun r hr i q1 q2 => ?_, t4⟩
  show r.2.2.1 ≤ up I a j x b i ∧ up I a j x b i ≤ r.2.2.2
  unfold up
  by_cases q : b = a ∧ i = j
  · rw [if_pos q]
    obtain ⟨rfl, rfl⟩ := q
    unfold fitI at hf
    rw [List.all_eq_true] at hf
    have := hf r hr
    rw [Bool.or_eq_true, Bool.or_eq_true, Bool.and_eq_true, Bool.not_eq_true', Bool.not_eq_true', ble_iff, ble_iff, ltB_f, ltB_f] at this
    omega
  · rw [if_neg q]
    exact t3 r hr i q1 q2
theorem HT_up2 {Y : Nat → TYE} {Γ : Nat → Nat} {s u : Nat} {K : Nat → Nat × Nat} {R : Nat → Nat → Option Nat} {I : Nat → Nat → Int} {a j : Nat} {x : Int} (hT : HTy Y Γ (s, u, K, R, I)) (hx : ∀ r ∈ (Y (Γ a)).2.2.1, r.1 ≤ j → j < r.2.1 → r.2.2.1 ≤ x ∧ x ≤ r.2.2.2) : HTy Y Γ (s, u, K, R, up I a j x) := by
  intro b hb
  obtain ⟨t1, t2, t3, t4⟩ := hT b hb
  refine ⟨t1, t2, fun r hr i q1 q2 => ?_, t4⟩
  show r.2.2.1 ≤ up I a j x b i ∧ up I a j x b i ≤ r.2.2.2
  unfold up
  by_cases q : b = a ∧ i = j
  · rw [if_pos q]
    obtain ⟨rfl, rfl⟩ := q
    exact hx r hr q1 q2
  · rw [if_neg q]
    exact t3 r hr i q1 q2
theorem fitI_ok {T : TYE} {lo hi j : Nat} {p : Int × Int} {x : Int} (hf : fitI T lo hi p = true) (h1 : lo ≤ j) (h2 : j < hi) (hx : p.1 ≤ x ∧ x ≤ p.2) : ∀ r ∈ T.2.2.1, r.1 ≤ j → j < r.2.1 → r.2.2.1 ≤ x ∧ x ≤ r.2.2.2 := by
  intro r hr q1 q2
  unfold fitI at hf
  rw [List.all_eq_true] at hf
  have := hf r hr
  rw [Bool.or_eq_true, Bool.or_eq_true, Bool.and_eq_true, Bool.not_eq_true', Bool.not_eq_true', ble_iff, ble_iff, ltB_f, ltB_f] at this
  omega
/-- bounds of what is read at any cell from lo on to ahead of hi -/
def rdI (T : TYE) (lo hi : Nat) : Option (Int × Int) := match T.2.2.1.find? fun r => Nat.ble r.1 lo && Nat.ble hi r.2.1 with
  | some r => some r.2.2
  | none => none
theorem rdI_ok {Y : Nat → TYE} {Γ : Nat → Nat} {M : MM} {a j lo hi : Nat} {p : Int × Int} (hT : HTy Y Γ M) (h0 : Γ a ≠ 0) (h : rdI (Y (Γ a)) lo hi = some p) (h1 : lo ≤ j) (h2 : j < hi) : p.1 ≤ M.2.2.2.2 a j ∧ M.2.2.2.2 a j ≤ p.2 := by
  unfold rdI at h
  split at h
  · rename_i r hr
    cases h
    have hm := List.mem_of_find?_eq_some hr
    have hb := List.find?_some hr
    rw [Bool.and_eq_true, ble_iff, ble_iff] at hb
    exact (hT a h0).2.2.1 r hm j (by omega) (by omega)
  · cases h
/-! bounds after a branch -/
theorem BO.set {ρ : Nat → Int} {C : BC} {i : Nat} {p : Int × Int} (h : BO ρ C) (h1 : p.1 ≤ ρ i) (h2 : ρ i ≤ p.2) : BO ρ (C.set i p) := by
  by_cases hl : i < C.length
  · intro j
    by_cases hj : j = i
    · subst hj
      unfold bnd
      rw [List.getD_eq_getElem?_getD, List.getElem?_set, if_pos rfl, if_pos hl]
      exact ⟨h1, h2⟩
    · have e : bnd (C.set i p) j = bnd C j := by
        unfold bnd
        rw [List.getD_eq_getElem?_getD, List.getElem?_set_ne (fun q => hj q.symm), ← List.getD_eq_getElem?_getD]
      rw [e]
      exact h j
  · rw [List.set_eq_of_length_le (by omega)]
    exact h
def mxB (x y : Int) : Int := cond (ltB x y) y x
def mnB (x y : Int) : Int := cond (ltB x y) x y
theorem mxB_le {x y z : Int} (h1 : x ≤ z) (h2 : y ≤ z) : mxB x y ≤ z := by
  unfold mxB
  cases ltB x y <;> simp only [cond_true, cond_false] <;> assumption
theorem le_mnB {x y z : Int} (h1 : z ≤ x) (h2 : z ≤ y) : z ≤ mnB x y := by
  unfold mnB
  cases ltB x y <;> simp only [cond_true, cond_false] <;> assumption
/-- what x c (something within p) tells of a number within b -/
def rfP (c : Jvm.ClassFile.Cond) (b p : Int × Int) : Int × Int := match c with
  | .eq => (mxB b.1 p.1, mnB b.2 p.2)
  | .ne => (cond (eqB p.1 p.2 && eqB b.1 p.1) (b.1 + 1) b.1, cond (eqB p.1 p.2 && eqB b.2 p.1) (b.2 - 1) b.2)
  | .lt => (b.1, mnB b.2 (p.2 - 1))
  | .ge => (mxB b.1 p.1, b.2)
  | .gt => (mxB b.1 (p.1 + 1), b.2)
  | .le => (b.1, mnB b.2 p.2)
theorem rfP_ok {c : Jvm.ClassFile.Cond} {b p : Int × Int} {x y : Int} (h1 : b.1 ≤ x ∧ x ≤ b.2) (h2 : p.1 ≤ y ∧ y ≤ p.2) (h : cmI c x y) : (rfP c b p).1 ≤ x ∧ x ≤ (rfP c b p).2 := by
  cases c with
  | eq => simp only [cmI] at h; subst h; exact ⟨mxB_le h1.1 h2.1, le_mnB h1.2 h2.2⟩
  | ne =>
    simp only [cmI] at h
    simp only [rfP]
    constructor
    · cases q : (eqB p.1 p.2 && eqB b.1 p.1) with
      | false => exact h1.1
      | true =>
        rw [Bool.and_eq_true, eqB_iff, eqB_iff] at q
        rw [cond_true]
        omega
    · cases q : (eqB p.1 p.2 && eqB b.2 p.1) with
      | false => exact h1.2
      | true =>
        rw [Bool.and_eq_true, eqB_iff, eqB_iff] at q
        rw [cond_true]
        omega
  | lt => simp only [cmI] at h; exact ⟨h1.1, le_mnB h1.2 (by omega)⟩
  | ge => simp only [cmI] at h; exact ⟨mxB_le h1.1 (by omega), h1.2⟩
  | gt => simp only [cmI] at h; exact ⟨mxB_le h1.1 (by omega), h1.2⟩
  | le => simp only [cmI] at h; exact ⟨h1.1, le_mnB h1.2 (by omega)⟩
/-- a value's bounds made narrower -/
def narV (C : BC) (v : AV) (p : Int × Int) : BC := cond (Nat.beq v.1 1) (C.set v.2.1 (p.1 - v.2.2.2, p.2 - v.2.2.2)) C
theorem narV_ok {ρ : Nat → Int} {C : BC} {v : AV} {p : Int × Int} (hC : BO ρ C) (h : isI v = true) (h1 : p.1 ≤ iv ρ v) (h2 : iv ρ v ≤ p.2) : BO ρ (narV C v p) := by
  obtain ⟨t, i, a, c⟩ := v
  unfold narV
  cases ht : Nat.beq (t, i, a, c).1 1 with
  | false => exact hC
  | true =>
    have ht : t = 1 := beq_iff.mp ht
    subst ht
    have e : iv ρ (1, i, a, c) = ρ i + c := rfl
    rw [e] at h1 h2
    rw [cond_true]
    exact hC.set (show p.1 - c ≤ ρ i by omega) (show ρ i ≤ p.2 - c by omega)
def flC (c : Jvm.ClassFile.Cond) : Jvm.ClassFile.Cond := match c with
  | .eq => .eq
  | .ne => .ne
  | .lt => .gt
  | .ge => .le
  | .gt => .lt
  | .le => .ge
theorem flC_ok {c : Jvm.ClassFile.Cond} {x y : Int} (h : cmI c x y) : cmI (flC c) y x := by
  cases c <;> simp only [cmI, flC] at h ⊢ <;> omega
def rfE (c : Jvm.ClassFile.Cond) (C : BC) (x y : AV) : BC := narV (narV C x (rfP c (ivl C x) (ivl C y))) y (rfP (flC c) (ivl C y) (ivl C x))
theorem rfE_ok {c : Jvm.ClassFile.Cond} {ρ : Nat → Int} {C : BC} {x y : AV} (hC : BO ρ C) (hx : isI x = true) (hy : isI y = true) (h : cmI c (iv ρ x) (iv ρ y)) : BO ρ (rfE c C x y) := by
  have b1 := ivl_ok hC hx
  have b2 := ivl_ok hC hy
  have q1 := rfP_ok b1 b2 h
  have q2 := rfP_ok b2 b1 (flC_ok h)
  exact narV_ok (narV_ok hC hx q1.1 q1.2) hy q2.1 q2.2
/-- nothing has such bounds -/
def emB (C : BC) : Bool := C.any fun p => ltB p.2 p.1
theorem emB_ok {ρ : Nat → Int} {C : BC} (hC : BO ρ C) : emB C = false := by
  cases h : emB C with
  | false => rfl
  | true =>
    exfalso
    unfold emB at h
    rw [List.any_eq_true] at h
    obtain ⟨p, h1, h2⟩ := h
    obtain ⟨i, hi, rfl⟩ := List.getElem_of_mem h1
    have := hC i
    unfold bnd at this
    rw [List.getD_eq_getElem?_getD, List.getElem?_eq_getElem hi] at this
    rw [ltB_iff] at h2
    have h3 : (C[i]).1 ≤ ρ i ∧ ρ i ≤ (C[i]).2 := this
    omega
