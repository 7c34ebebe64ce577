/-! the evaluator tells the truth: branches, bounds, calls, cells -/
theorem ltB_f {x y : Int} : ltB x y = false ↔ ¬ x < y := by
  rw [← ltB_iff]; cases ltB x y <;> simp
theorem eqB_f {x y : Int} : eqB x y = false ↔ ¬ x = y := by
  rw [← eqB_iff]; cases eqB x y <;> simp
theorem ltD_ok {p q : Int × Int} {a b : Int} (h1 : p.1 ≤ a) (h2 : a ≤ p.2) (h3 : q.1 ≤ b) (h4 : b ≤ q.2) : (ltD p q = 1 → a < b) ∧ (ltD p q = 0 → ¬ a < b) := by
  unfold ltD
  cases q1 : ltB p.2 q.1 <;> cases q2 : ltB p.1 q.2 <;> simp only [cond_true, cond_false] <;> simp only [ltB_iff, ltB_f] at q1 q2 <;> constructor <;> intro h <;> first | (cases h; done) | omega
theorem eqD_ok {p q : Int × Int} {a b : Int} (h1 : p.1 ≤ a) (h2 : a ≤ p.2) (h3 : q.1 ≤ b) (h4 : b ≤ q.2) : (eqD p q = 1 → a = b) ∧ (eqD p q = 0 → ¬ a = b) := by
  unfold eqD
  cases q1 : ltB p.2 q.1 with
  | true => rw [ltB_iff] at q1; exact ⟨fun h => (by cases h), fun _ => by omega⟩
  | false =>
    cases q2 : ltB q.2 p.1 with
    | true => rw [ltB_iff] at q2; exact ⟨fun h => (by cases h), fun _ => by omega⟩
    | false =>
      cases q3 : (eqB p.1 p.2 && (eqB q.1 q.2 && eqB p.1 q.1)) with
      | false => exact ⟨fun h => (by cases h), fun h => by cases h⟩
      | true =>
        rw [Bool.and_eq_true, Bool.and_eq_true, eqB_iff, eqB_iff, eqB_iff] at q3
        exact ⟨fun _ => by omega, fun h => by cases h⟩
theorem ntD_1 {n : Nat} (h : ntD n = 1) : n = 0 := by
  match n, h with
  | 0, _ => rfl
  | 1, h => cases h
  | n + 2, h => cases h
theorem ntD_0 {n : Nat} (h : ntD n = 0) : n = 1 := by
  match n, h with
  | 0, h => cases h
  | 1, _ => rfl
  | n + 2, h => cases h
theorem dB_ok {c : Jvm.ClassFile.Cond} {p q : Int × Int} {a b : Int} (h1 : p.1 ≤ a) (h2 : a ≤ p.2) (h3 : q.1 ≤ b) (h4 : b ≤ q.2) : (dB c p q = 1 → cmI c a b) ∧ (dB c p q = 0 → ¬ cmI c a b) := by
  have L := ltD_ok h1 h2 h3 h4
  have G := ltD_ok h3 h4 h1 h2
  have E := eqD_ok h1 h2 h3 h4
  cases c with
  | eq => exact E
  | ne => exact ⟨fun h => E.2 (ntD_1 h), fun h q => q (E.1 (ntD_0 h))⟩
  | lt => exact L
  | ge => exact ⟨fun h => by have := L.2 (ntD_1 h); simp only [cmI]; omega, fun h => by have := L.1 (ntD_0 h); simp only [cmI]; omega⟩
  | gt => exact G
  | le => exact ⟨fun h => by have := G.2 (ntD_1 h); simp only [cmI]; omega, fun h => by have := G.1 (ntD_0 h); simp only [cmI]; omega⟩
theorem bdV_ok {C : CT} {ρ : Nat → Int} {v : VV} {m : MV} {p : Int × Int} (hC : BS ρ C) (h : bdV C v = some p) (r : VR ρ v m) : ∃ a, m = vi a ∧ p.1 ≤ a ∧ a ≤ p.2 := by
  unfold bdV at h
  split at h
  · rename_i a
    cases h
    exact ⟨a, r, Int.le_refl _, Int.le_refl _⟩
  · rename_i i z
    cases h
    rcases r with ⟨h9, -⟩ | ⟨h9, -⟩ | ⟨-, r⟩ | ⟨h9, -⟩ | ⟨h9, -⟩ | ⟨h9, -⟩ | ⟨h9, -⟩ | ⟨h9, -⟩ <;> first | (cases h9; done) | skip
    exact ⟨_, r, hC.2 i.toNat⟩
  · rename_i lo hi
    cases h
    rcases r with ⟨h9, -⟩ | ⟨h9, -⟩ | ⟨h9, -⟩ | ⟨h9, -⟩ | ⟨h9, -⟩ | ⟨-, a, r, h1, h2⟩ | ⟨h9, -⟩ | ⟨h9, -⟩ <;> first | (cases h9; done) | skip
    exact ⟨a, r, h1, h2⟩
  · cases h
theorem sameV_ok {ρ : Nat → Int} {x y : VV} {mx my : MV} (h : sameV x y = true) (hx : VR ρ x mx) (hy : VR ρ y my) : ∃ a, mx = vi a ∧ my = vi a := by
  unfold sameV at h
  split at h
  · rename_i i z j w
    rcases hx with ⟨h9, -⟩ | ⟨h9, -⟩ | ⟨-, hx⟩ | ⟨h9, -⟩ | ⟨h9, -⟩ | ⟨h9, -⟩ | ⟨h9, -⟩ | ⟨h9, -⟩ <;> first | (cases h9; done) | skip
    rcases hy with ⟨h9, -⟩ | ⟨h9, -⟩ | ⟨-, hy⟩ | ⟨h9, -⟩ | ⟨h9, -⟩ | ⟨h9, -⟩ | ⟨h9, -⟩ | ⟨h9, -⟩ <;> first | (cases h9; done) | skip
    rw [eqB_iff] at h
    subst h
    exact ⟨_, hx, hy⟩
  · rename_i i z j w
    rcases hx with ⟨h9, -⟩ | ⟨h9, -⟩ | ⟨h9, -⟩ | ⟨h9, -⟩ | ⟨-, hx⟩ | ⟨h9, -⟩ | ⟨h9, -⟩ | ⟨h9, -⟩ <;> first | (cases h9; done) | skip
    rcases hy with ⟨h9, -⟩ | ⟨h9, -⟩ | ⟨h9, -⟩ | ⟨h9, -⟩ | ⟨-, hy⟩ | ⟨h9, -⟩ | ⟨h9, -⟩ | ⟨h9, -⟩ <;> first | (cases h9; done) | skip
    rw [eqB_iff] at h
    subst h
    exact ⟨_, hx, hy⟩
  · cases h
theorem rfB_ok {c : Jvm.ClassFile.Cond} {p : Int × Int} {a b : Int} (h1 : p.1 ≤ a) (h2 : a ≤ p.2) (h : cmI c a b) : (rfB c p b).1 ≤ a ∧ a ≤ (rfB c p b).2 := by
  cases c with
  | eq => simp only [cmI] at h; subst h; exact ⟨Int.le_refl _, Int.le_refl _⟩
  | ne =>
    simp only [cmI] at h
    cases q1 : eqB p.1 b <;> cases q2 : eqB p.2 b <;> simp only [rfB, q1, q2, cond_true, cond_false] <;> simp only [eqB_iff, eqB_f] at q1 q2 <;> omega
  | lt =>
    simp only [cmI] at h
    cases q1 : ltB p.2 b <;> simp only [rfB, q1, cond_true, cond_false] <;> omega
  | ge =>
    simp only [cmI] at h
    cases q1 : ltB p.1 b <;> simp only [rfB, q1, cond_true, cond_false] <;> omega
  | gt =>
    simp only [cmI] at h
    cases q1 : ltB b p.1 <;> simp only [rfB, q1, cond_true, cond_false] <;> omega
  | le =>
    simp only [cmI] at h
    cases q1 : ltB b p.2 <;> simp only [rfB, q1, cond_true, cond_false] <;> omega
theorem ncd_ok {c : Jvm.ClassFile.Cond} {a b : Int} (h : ¬ cmI c a b) : cmI (ncd c) a b := by
  cases c <;> simp only [cmI, ncd] at h ⊢ <;> omega
theorem rfC_ok {c : Jvm.ClassFile.Cond} {C : CT} {x y : VV} {ρ : Nat → Int} {a b : Int} (hC : BS ρ C) (hx : VR ρ x (vi a)) (hy : VR ρ y (vi b)) (h : cmI c a b) : BS ρ (rfC c C x y) := by
  unfold rfC
  split
  · rename_i i z b1
    rcases hx with ⟨h9, -⟩ | ⟨h9, -⟩ | ⟨-, hx⟩ | ⟨h9, -⟩ | ⟨h9, -⟩ | ⟨h9, -⟩ | ⟨h9, -⟩ | ⟨h9, -⟩ <;> first | (cases h9; done) | skip
    cases hx
    cases (show vi b = vi b1 from hy)
    have hb := hC.2 i.toNat
    have := rfB_ok hb.1 hb.2 h
    exact hC.set this.1 this.2
  · exact hC
theorem cm00 {c : Jvm.ClassFile.Cond} (a : Int) : cmB c 0 0 = true ↔ cmI c a a := by
  rw [cmB_iff]
  cases c <;> simp only [cmI] <;> omega
theorem two_ok {c : Jvm.ClassFile.Cond} {x y : VV} {ρ : Nat → Int} {mx my : MV} (hx : VR ρ x mx) (hy : VR ρ y my) (h3 : cond (Nat.beq (ty x) 0 && Nat.beq (ty y) 0) 2 3 ≤ 2) : ∃ a b, mx = vi a ∧ my = vi b ∧ (cond (Nat.beq (ty x) 0 && Nat.beq (ty y) 0) 2 3 = 1 → cmI c a b) ∧ (cond (Nat.beq (ty x) 0 && Nat.beq (ty y) 0) 2 3 = 0 → ¬ cmI c a b) := by
  cases q1 : Nat.beq (ty x) 0 with
  | false => rw [q1, Bool.false_and] at h3; exact absurd h3 (by decide)
  | true =>
    cases q2 : Nat.beq (ty y) 0 with
    | false => rw [q1, q2] at h3; exact absurd h3 (by decide)
    | true =>
      obtain ⟨a, rfl⟩ := VR.int (beq_iff.mp q1) hx
      obtain ⟨b, rfl⟩ := VR.int (beq_iff.mp q2) hy
      exact ⟨a, b, rfl, rfl, fun h => (by cases h), fun h => (by cases h)⟩
theorem cc2_ok {x y : VV} {p : Int × Int} (h : cc2 x y = some p) : x = ci p.1 ∧ y = ci p.2 := by
  unfold cc2 at h
  split at h
  · cases h
    exact ⟨rfl, rfl⟩
  · cases h
theorem cdec_ok {c : Jvm.ClassFile.Cond} {C : CT} {x y : VV} {ρ : Nat → Int} {mx my : MV} (hC : BS ρ C) (hx : VR ρ x mx) (hy : VR ρ y my) (h3 : cdec c C x y ≤ 2) : ∃ a b, mx = vi a ∧ my = vi b ∧ (cdec c C x y = 1 → cmI c a b) ∧ (cdec c C x y = 0 → ¬ cmI c a b) := by
  unfold cdec at h3 ⊢
  cases hq : cc2 x y with
  | some p =>
    obtain ⟨a, b⟩ := p
    obtain ⟨rfl, rfl⟩ := cc2_ok hq
    cases (show mx = vi a from hx); cases (show my = vi b from hy)
    refine ⟨a, b, rfl, rfl, ?_⟩
    show (cond (cmB c a b) 1 0 = 1 → _) ∧ (cond (cmB c a b) 1 0 = 0 → _)
    rw [← cmB_iff]
    cases cmB c a b <;> simp
  | none =>
    rw [hq] at h3
    have h3 : cond (sameV x y) (cond (cmB c 0 0) 1 0) (cdS c C x y) ≤ 2 := h3
    show ∃ a b, mx = vi a ∧ my = vi b ∧ (cond (sameV x y) (cond (cmB c 0 0) 1 0) (cdS c C x y) = 1 → cmI c a b) ∧ (cond (sameV x y) (cond (cmB c 0 0) 1 0) (cdS c C x y) = 0 → ¬ cmI c a b)
    cases hs : sameV x y with
    | true =>
      obtain ⟨a, rfl, rfl⟩ := sameV_ok hs hx hy
      refine ⟨a, a, rfl, rfl, ?_⟩
      rw [cond_true]
      have := cm00 (c := c) a
      cases q2 : cmB c 0 0 with
      | false => rw [q2] at this; exact ⟨fun h => (by cases h), fun _ h => (by have := this.mpr h; cases this)⟩
      | true => rw [q2] at this; exact ⟨fun _ => this.mp rfl, fun h => (by cases h)⟩
    | false =>
      rw [hs, cond_false] at h3
      rw [cond_false]
      unfold cdS at h3 ⊢
      cases hp : bdV C x with
      | some p =>
        cases hq2 : bdV C y with
        | some q =>
          obtain ⟨a, rfl, h4, h5⟩ := bdV_ok hC hp hx
          obtain ⟨b, rfl, h6, h7⟩ := bdV_ok hC hq2 hy
          exact ⟨a, b, rfl, rfl, dB_ok h4 h5 h6 h7⟩
        | none =>
          rw [hp, hq2] at h3
          exact two_ok hx hy h3
      | none =>
        rw [hp] at h3
        exact two_ok hx hy h3
theorem br_ok {c : Jvm.ClassFile.Cond} {C : CT} {x y : VV} {kt kf : CT → Bool} {ρ : Nat → Int} {mx my : MV} (h : x_br c C x y kt kf = true) (hC : BS ρ C) (hx : VR ρ x mx) (hy : VR ρ y my) : ∃ a b, mx = vi a ∧ my = vi b ∧ ((cmI c a b ∧ ∃ C1, BS ρ C1 ∧ kt C1 = true) ∨ (¬ cmI c a b ∧ ∃ C1, BS ρ C1 ∧ kf C1 = true)) := by
  have key := cdec_ok (c := c) hC hx hy
  unfold x_br at h
  generalize hq : cdec c C x y = q at h key
  match q, h, key with
  | 0, h, key =>
    obtain ⟨a, b, h1, h2, -, h4⟩ := key (by omega)
    exact ⟨a, b, h1, h2, Or.inr ⟨h4 rfl, C, hC, h⟩⟩
  | 1, h, key =>
    obtain ⟨a, b, h1, h2, h3, -⟩ := key (by omega)
    exact ⟨a, b, h1, h2, Or.inl ⟨h3 rfl, C, hC, h⟩⟩
  | 2, h, key =>
    obtain ⟨a, b, rfl, rfl, -, -⟩ := key (by omega)
    have h : (kt (rfC c C x y) && kf (rfC (ncd c) C x y)) = true := h
    rw [Bool.and_eq_true] at h
    refine ⟨a, b, rfl, rfl, ?_⟩
    by_cases hc : cmI c a b
    · exact Or.inl ⟨hc, _, rfC_ok hC hx hy hc, h.1⟩
    · exact Or.inr ⟨hc, _, rfC_ok hC hx hy (ncd_ok hc), h.2⟩
  | q + 3, h, key => cases h
theorem sp1_ok {ρ : Nat → Int} {C : CT} (i : Nat) (lo hi : Int) (h : BS ρ C) : ∃ C1 ∈ sp1 C i lo hi, BS ρ C1 := by
  have hb := h.2 i
  unfold sp1
  by_cases h1 : ρ i < lo
  · refine ⟨C.set i ((bnd C i).1, cond (ltB (bnd C i).2 lo) (bnd C i).2 (lo - 1)), ?_, h.set hb.1 ?_⟩
    · rw [(ltB_iff _ _).mpr (by omega : (bnd C i).1 < lo)]
      exact List.mem_append_left _ (List.mem_append_left _ List.mem_cons_self)
    · show _ ≤ cond (ltB (bnd C i).2 lo) (bnd C i).2 (lo - 1)
      cases ltB (bnd C i).2 lo
      · show _ ≤ lo - 1; omega
      · exact hb.2
  · by_cases h2 : hi < ρ i
    · refine ⟨C.set i (cond (ltB hi (bnd C i).1) (bnd C i).1 (hi + 1), (bnd C i).2), ?_, h.set ?_ hb.2⟩
      · rw [(ltB_iff _ _).mpr (by omega : hi < (bnd C i).2)]
        exact List.mem_append_right _ List.mem_cons_self
      · show cond (ltB hi (bnd C i).1) (bnd C i).1 (hi + 1) ≤ _
        cases ltB hi (bnd C i).1
        · show hi + 1 ≤ _; omega
        · exact hb.1
    · refine ⟨C.set i (ρ i, ρ i), ?_, h.set (Int.le_refl _) (Int.le_refl _)⟩
      refine List.mem_append_left _ (List.mem_append_right _ ?_)
      refine List.mem_flatMap.mpr ⟨(ρ i - lo).toNat, List.mem_range.mpr (by omega), ?_⟩
      have e : lo + (((ρ i - lo).toNat : Nat) : Int) = ρ i := by omega
      rw [e, (ltB_f).mpr (by omega : ¬ ρ i < (bnd C i).1), (ltB_f).mpr (by omega : ¬ (bnd C i).2 < ρ i)]
      exact List.mem_cons_self
theorem bx_ok {ρ : Nat → Int} : ∀ (l : List (Nat × Int × Int)) (C : CT), BS ρ C → ∃ C1 ∈ bx l C, BS ρ C1
  | [], C, h => ⟨C, List.mem_cons_self, h⟩
  | (i, lo, hi) :: r, C, h => by
    obtain ⟨C1, h1, h2⟩ := sp1_ok i lo hi h
    obtain ⟨C2, h3, h4⟩ := bx_ok r C1 h2
    exact ⟨C2, List.mem_flatMap.mpr ⟨C1, h1, h3⟩, h4⟩
/-! the table -/
theorem chkL_drop {k : Nat} {cc : List OE} : ∀ (l : List OE) (n : Nat) {e : OE} {r : List OE}, chkL k cc l = true → l.drop n = e :: r → rowB k e r cc = true
  | [], n, e, r, _, h => by rw [List.drop_nil] at h; cases h
  | a :: l, 0, e, r, h, h2 => by
    cases h2
    unfold chkL at h
    rw [Bool.and_eq_true] at h
    exact h.1
  | a :: l, n + 1, e, r, h, h2 => by
    unfold chkL at h
    rw [Bool.and_eq_true] at h
    exact chkL_drop l n h.2 h2
theorem mt_at {y : Nat} {row : List OE × Nat × Nat} (hy : y < nT) (h : bget 9 mtT y = some row) : row.1 = ops y ∧ row.2.1 = mmaxl y ∧ row.2.2 = mcls y ∧ (∀ e r, ops y = e :: r → e.1 = 0) := by
  have hc := chk_all y hy
  unfold ckT at hc
  rw [h] at hc
  have ho : ops y = row.1 := by unfold ops; rw [h]
  obtain ⟨l, ml, c⟩ := row
  simp only [Bool.and_eq_true] at hc
  refine ⟨ho.symm, (beq_iff.mp hc.2.1), (beq_iff.mp hc.2.2.1), fun e r h2 => ?_⟩
  have h3 := hc.2.2.2
  rw [ho] at h2
  rw [show l = e :: r from h2] at h3
  exact beq_iff.mp h3
theorem row_at {k n : Nat} {e : OE} {r : List OE} (hk : k < nT) (h : (ops k).drop n = e :: r) : rowB k e r (ops k) = true := by
  have hc := chk_all k hk
  unfold ckT at hc
  cases hq : bget 9 mtT k with
  | none =>
    have : ops k = [] := by unfold ops; rw [hq]
    rw [this, List.drop_nil] at h
    cases h
  | some row =>
    rw [hq] at hc
    have ho : ops k = row.1 := by unfold ops; rw [hq]
    obtain ⟨l, ml, c⟩ := row
    simp only [Bool.and_eq_true] at hc
    rw [ho] at h ⊢
    exact chkL_drop l n hc.1 h
def STP (go : GO) (k n : Nat) (e : OE) (r : List OE) : Prop := GOK go ∧ k < nT ∧ (ops k).drop n = e :: r ∧ rowB k e r (ops k) = true ∧ isNop e.2.1 = false
theorem STP.tl {go : GO} {k n : Nat} {e : OE} {r : List OE} (h : STP go k n e r) : (ops k).drop (n + 1) = r := by
  rw [← List.tail_drop, h.2.2.1]
  rfl
theorem STP.row {go : GO} {k n : Nat} {e : OE} {r : List OE} (h : STP go k n e r) : decode (mcode k) e.1 = .ok (e.2.1, e.2.2.1) ∧ (∀ e2 r2, r = e2 :: r2 → e2.1 = e.1 + e.2.2.1) ∧ rowA k e.1 e.2.1 e.2.2.1 e.2.2.2.1 e.2.2.2.2.1 e.2.2.2.2.2 (ops k) = true := by
  have h4 := h.2.2.2.1
  unfold rowB at h4
  rw [h.2.2.2.2, Bool.false_or, Bool.and_eq_true, Bool.and_eq_true] at h4
  refine ⟨of_decide_eq_true h4.1, fun e2 r2 h5 => ?_, h4.2.2⟩
  subst h5
  exact beq_iff.mp h4.2.1
theorem STP.next {go : GO} {k n : Nat} {e : OE} {r : List OE} (h : STP go k n e r) {D : Nat} {ls st : List VV} {fs : List FR} {T : HT} {s u : Nat} {C : CT} (hg : go D k (ops k) r ls st fs T s u C = true) : SemAt D k (e.1 + e.2.2.1) ls st fs T s u C := by
  have ht := h.tl
  rw [← ht] at hg
  obtain ⟨e2, r2, h5, h6⟩ := h.1 _ _ _ _ _ _ _ _ _ _ h.2.1 hg
  rw [ht] at h5
  rw [← h.row.2.1 e2 r2 h5]
  exact h6
theorem STP.goto {go : GO} {k n : Nat} {e : OE} {r : List OE} (h : STP go k n e r) {a : Nat} {off : Int} (ht : tgB e.1 off (dropN a (ops k)) = true) : ∃ tgt : Nat, (e.1 : Int) + off = (tgt : Int) ∧ ∀ {D : Nat} {ls st : List VV} {fs : List FR} {T : HT} {s u : Nat} {C : CT}, go D k (ops k) (dropN a (ops k)) ls st fs T s u C = true → SemAt D k tgt ls st fs T s u C := by
  rw [dropN_eq] at ht ⊢
  cases hq : (ops k).drop a with
  | nil => rw [hq] at ht; cases ht
  | cons e2 r2 =>
    rw [hq] at ht
    refine ⟨e2.1, of_decide_eq_true ht, fun hg => ?_⟩
    rw [← hq] at hg
    obtain ⟨e3, r3, h5, h6⟩ := h.1 _ _ _ _ _ _ _ _ _ _ h.2.1 hg
    rw [hq] at h5
    cases h5
    exact h6
theorem findP_ok (p : Nat) : ∀ (l : List OE), findP p l = [] ∨ ∃ n e r, findP p l = l.drop n ∧ l.drop n = e :: r ∧ e.1 = p
  | [] => Or.inl rfl
  | e :: r => by
    unfold findP
    cases h : Nat.beq e.1 p with
    | true => exact Or.inr ⟨0, e, r, rfl, rfl, beq_iff.mp h⟩
    | false =>
      rcases findP_ok p r with h1 | ⟨n, e2, r2, h1, h2, h3⟩
      · exact Or.inl h1
      · exact Or.inr ⟨n + 1, e2, r2, h1, h2, h3⟩
theorem STP.find {go : GO} {k n : Nat} {e : OE} {r : List OE} (h : STP go k n e r) {p : Nat} {D : Nat} {ls st : List VV} {fs : List FR} {T : HT} {s u : Nat} {C : CT} (hg : go D k (ops k) (findP p (ops k)) ls st fs T s u C = true) : SemAt D k p ls st fs T s u C := by
  rcases findP_ok p (ops k) with h1 | ⟨n2, e2, r2, h1, h2, h3⟩
  · rw [h1, ← List.drop_length (l := ops k)] at hg
    obtain ⟨e3, r3, h5, -⟩ := h.1 _ _ _ _ _ _ _ _ _ _ h.2.1 hg
    rw [List.drop_length] at h5
    cases h5
  · rw [h1] at hg
    obtain ⟨e3, r3, h5, h6⟩ := h.1 _ _ _ _ _ _ _ _ _ _ h.2.1 hg
    rw [h2] at h5
    cases h5
    rw [← h3]
    exact h6
/-! calls -/
theorem g_inv {d k pc idx y n a : Nat} {ls t as : List MV} {M : MM} {Q Q1 : Option MV → MM → Prop} (hd : decode (mcode k) pc = .ok (.invokevirtual idx, 3)) (hp : pool (mcls k) idx = some (4, y, n)) (hl : as.length = n) (ha : M.2.2.1 a = (mcls y, 0)) (hs : mstat y = false) (hn : ((mname y).name == "<init>") = false) (hw : wds t ≤ 8) (hm : Rm d y (vr a :: as) M Q1) (kk : ∀ r M1, Q1 r M1 → Wm d k (pc + 3) ls (r.toList ++ t) M1 Q) : Wm d k pc ls (as.reverse ++ (vr a :: t)) M Q := by
  obtain ⟨r, M1, hr, q⟩ := hm
  obtain ⟨n9, r2, M2, h, q2⟩ := kk r M1 q
  exact ⟨n9 + 1, r2, M2, ⟨⟨Nat.le_trans hr.mono.1 h.mono.1, Nat.le_trans hr.mono.2 h.mono.2⟩, _, _, hd, Or.inr ⟨rfl, y, n, as, a, t, r, M1, hp, rfl, hl, ha, hs, hn, hw, hr, h⟩⟩, q2⟩
theorem g_sta {d k pc idx y n : Nat} {ls t as : List MV} {M : MM} {Q Q1 : Option MV → MM → Prop} (hd : decode (mcode k) pc = .ok (.invokestatic idx, 3)) (hp : pool (mcls k) idx = some (4, y, n)) (hl : as.length = n) (hs : mstat y = true) (hw : wds t ≤ 8) (hm : Rm d y as M Q1) (kk : ∀ r M1, Q1 r M1 → Wm d k (pc + 3) ls (r.toList ++ t) M1 Q) : Wm d k pc ls (as.reverse ++ t) M Q := by
  obtain ⟨r, M1, hr, q⟩ := hm
  obtain ⟨n9, r2, M2, h, q2⟩ := kk r M1 q
  exact ⟨n9 + 1, r2, M2, ⟨⟨Nat.le_trans hr.mono.1 h.mono.1, Nat.le_trans hr.mono.2 h.mono.2⟩, _, _, hd, Or.inr ⟨rfl, Or.inl ⟨y, n, as, t, r, M1, hp, rfl, hl, hs, hw, hr, h⟩⟩⟩, q2⟩
theorem g_ini {d k pc idx y n a : Nat} {ls t as : List MV} {M : MM} {Q Q1 : Option MV → MM → Prop} (hd : decode (mcode k) pc = .ok (.invokespecial idx, 3)) (hp : pool (mcls k) idx = some (4, y, n)) (hl : as.length = n) (hs : mstat y = false) (hn : ((mname y).name == "<init>") = true) (hw : wds t ≤ 8) (hm : Rm d y (vr a :: as) M Q1) (kk : ∀ r M1, Q1 r M1 → r = none ∧ Wm d k (pc + 3) ls (r.toList ++ t) M1 Q) : Wm d k pc ls (as.reverse ++ (vr a :: t)) M Q := by
  obtain ⟨r, M1, hr, q⟩ := hm
  obtain ⟨rfl, n9, r2, M2, h, q2⟩ := kk r M1 q
  exact ⟨n9 + 1, r2, M2, ⟨⟨Nat.le_trans hr.mono.1 h.mono.1, Nat.le_trans hr.mono.2 h.mono.2⟩, _, _, hd, Or.inr ⟨rfl, Or.inl ⟨y, n, as, a, t, M1, hp, rfl, hl, hs, hn, hw, hr, h⟩⟩⟩, q2⟩
theorem popN_ok {ρ : Nat → Int} : ∀ (n : Nat) (st acc : List VV) (k : List VV → List VV → Bool) (st2 acc2 : List MV), popN n st acc k = true → VRs ρ st st2 → VRs ρ acc acc2 → ∃ vs t ms t2, k vs t = true ∧ VRs ρ vs (ms.reverse ++ acc2) ∧ VRs ρ t t2 ∧ st2 = ms ++ t2 ∧ ms.length = n
  | 0, st, acc, k, st2, acc2, h, h1, h2 => ⟨acc, st, [], st2, h, h2, h1, rfl, rfl⟩
  | n + 1, [], acc, k, st2, acc2, h, _, _ => by cases h
  | n + 1, v :: t, acc, k, st2, acc2, h, h1, h2 => by
    obtain ⟨m, t2, rfl, h3, h4⟩ := h1.cons
    obtain ⟨vs, t3, ms, t4, h5, h6, h7, h8, h9⟩ := popN_ok n t (v :: acc) k t2 (m :: acc2) h h4 ⟨h3, h2⟩
    refine ⟨vs, t3, m :: ms, t4, h5, ?_, h7, by rw [h8]; rfl, by rw [List.length_cons, h9]⟩
    rw [List.reverse_cons, List.append_assoc]
    exact h6
theorem repK_ok {ρ : Nat → Int} : ∀ (n : Nat) (k : List VV → Bool), repK n k = true → ∃ l, k l = true ∧ VRs ρ l (List.replicate n vn)
  | 0, k, h => ⟨[], h, trivial⟩
  | n + 1, k, h => by
    obtain ⟨l, h1, h2⟩ := repK_ok n _ h
    exact ⟨cN :: l, h1, rfl, h2⟩
theorem flt_cons (m : MV) (l : List MV) : flt (m :: l) = (match m with | Sum.inr (Sum.inl x) => [vl x, vn] | v => [v]) ++ flt l := by
  match m with
  | .inl x => rfl
  | .inr (.inl x) => rfl
  | .inr (.inr q) => rfl
theorem entK_ok {ρ : Nat → Int} : ∀ (vs : List VV) (ms : List MV) (ml : Nat) (k : List VV → Bool), entK vs ml k = true → VRs ρ vs ms → (flt ms).length ≤ ml ∧ ∃ l, k l = true ∧ VRs ρ l (flt ms ++ List.replicate (ml - (flt ms).length) vn)
  | [], ms, ml, k, h, hr => by
    cases hr.nil
    obtain ⟨l, h1, h2⟩ := repK_ok (ρ := ρ) ml k (by unfold entK at h; exact h)
    exact ⟨Nat.zero_le _, l, h1, h2⟩
  | v :: r, ms, ml, k, h, hr => by
    obtain ⟨m, t, rfl, h3, h4⟩ := hr.cons
    unfold entK at h
    cases hc : Nat.beq (ty v) 1 with
    | true =>
      rw [hc, cond_true] at h
      obtain ⟨x, rfl⟩ := VR.lng (beq_iff.mp hc) h3
      match ml, h with
      | 0, h => cases h
      | 1, h => cases h
      | ml + 2, h =>
        obtain ⟨h5, l, h6, h7⟩ := entK_ok r t ml _ h h4
        have e : flt (vl x :: t) = vl x :: vn :: flt t := flt_cons _ _
        rw [e]
        refine ⟨by simp only [List.length_cons]; omega, v :: cN :: l, h6, h3, rfl, ?_⟩
        rw [show ml + 2 - (vl x :: vn :: flt t).length = ml - (flt t).length by simp only [List.length_cons]; omega]
        exact h7
    | false =>
      rw [hc, cond_false] at h
      match ml, h with
      | 0, h => cases h
      | ml + 1, h =>
        obtain ⟨h5, l, h6, h7⟩ := entK_ok r t ml _ h h4
        have e : flt (m :: t) = m :: flt t := by
          rw [flt_cons]
          match m, h3 with
          | .inl x, _ => rfl
          | .inr (.inr q), _ => rfl
          | .inr (.inl x), h3 =>
            exfalso
            rcases h3.ty3 with h8 | h8 | h8
            · obtain ⟨z, h9⟩ := VR.int h8 h3; cases h9
            · rw [h8] at hc; cases hc
            · obtain ⟨z, -, h9⟩ := VR.plc h8 h3; cases h9
        rw [e]
        refine ⟨by simp only [List.length_cons]; omega, v :: l, h6, h3, ?_⟩
        rw [show ml + 1 - (m :: flt t).length = ml - (flt t).length by simp only [List.length_cons]; omega]
        exact h7
theorem callR_ok {go : GO} {k n : Nat} {e : OE} {r : List OE} (h : STP go k n e r) {y : Nat} (hy : y < nT) {q : List OE × Nat × Nat} (hq : bget 9 mtT y = some q) {vs t ls : List VV} {D : Nat} {fs : List FR} {T : HT} {s u : Nat} {C : CT} (hc : callR go y q vs t D k (ops k) r ls fs T s u C = true)
    {ρ : Nat → Int} {ms t2 ls2 : List MV} {fs2 : List (Nat × Nat × List MV × List MV)} {M : MM} (hC : BS ρ C) (hvs : VRs ρ vs ms) (ht : VRs ρ t t2) (hls : VRs ρ ls ls2) (hfs : FRs ρ fs fs2) (hH : HR ρ T s u M) :
    Rm D y ms M (fun r M1 => (mret y = none → r = none) ∧ Wm D k (e.1 + e.2.2.1) ls2 (r.toList ++ t2) M1 (KK QF fs2 (D + 1) k)) := by
  unfold callR at hc
  match D, r, hc, h with
  | 0, _, hc, h => cases hc
  | D + 1, [], hc, h => cases hc
  | D + 1, e2 :: r2, hc, h =>
    obtain ⟨c2, ml, cy⟩ := q
    obtain ⟨m1, m2, -, m4⟩ := mt_at hy hq
    have m1 : c2 = ops y := m1
    have m2 : ml = mmaxl y := m2
    subst m1; subst m2
    obtain ⟨h5, l, h6, h7⟩ := entK_ok _ ms _ _ hc hvs
    obtain ⟨e3, r3, h8, h9⟩ := h.1 D y 0 l [] _ T s u C hy (by rw [List.drop_zero]; exact h6)
    rw [List.drop_zero] at h8
    rw [m4 e3 r3 h8] at h9
    have hfr : FRs ρ ((k, ops k, e2 :: r2, ls, t) :: fs) ((k, e2.1, ls2, t2) :: fs2) := ⟨rfl, h.2.1, rfl, ⟨n + 1, e2, r2, h.tl.symm, rfl, rfl⟩, hls, ht, hfs⟩
    have hW := h9 ρ (ent y ms) [] ((k, e2.1, ls2, t2) :: fs2) M hC h7 trivial hfr hH
    rw [← h.row.2.1 e2 r2 rfl]
    exact Rm.of (ent y ms) (eq_true h5) rfl hW
theorem callK_ok {go : GO} {k n : Nat} {e : OE} {r : List OE} (h : STP go k n e r) {y : Nat} (hy : y < nT) {vs t ls : List VV} {D : Nat} {fs : List FR} {T : HT} {s u : Nat} {C : CT} (hc : callK go y vs t D k (ops k) r ls fs T s u C = true)
    {ρ : Nat → Int} {ms t2 ls2 : List MV} {fs2 : List (Nat × Nat × List MV × List MV)} {M : MM} (hC : BS ρ C) (hvs : VRs ρ vs ms) (ht : VRs ρ t t2) (hls : VRs ρ ls ls2) (hfs : FRs ρ fs fs2) (hH : HR ρ T s u M) :
    wds t2 ≤ 8 ∧ Rm D y ms M (fun r M1 => (mret y = none → r = none) ∧ Wm D k (e.1 + e.2.2.1) ls2 (r.toList ++ t2) M1 (KK QF fs2 (D + 1) k)) := by
  unfold callK at hc
  cases hw : Nat.ble (wdsV t) 8 with
  | false => rw [hw] at hc; cases hc
  | true =>
    rw [hw, cond_true] at hc
    refine ⟨by rw [ht.wds]; exact Nat.le_of_ble_eq_true hw, ?_⟩
    split at hc
    · rename_i q hq
      rw [q9_eq _ _ (by unfold nT at hy; omega)] at hq
      exact callR_ok h hy hq hc hC hvs ht hls hfs hH
    · cases hc
/-! cells -/
theorem fget_nil (j : Nat) : fget j [] = none := by cases j <;> rfl
theorem CE.fld {ρ : Nat → Int} {kc : Nat} {F : List (Option VV)} {A j : Nat} {x : Int} {q : Option Nat} {w : VV} (h : CE ρ kc F A j x q) (hk : isN kc = false) (hw : fget j F = some w) : (ty w = 0 → VR ρ w (vi x)) ∧ (ty w = 2 → VR ρ w (vq q)) := by
  rcases (h.2 hk).2 w hw with h | h
  · exact ⟨fun _ => h, fun ht => (by obtain ⟨z, -, h9⟩ := VR.plc ht h; cases h9)⟩
  · exact ⟨fun ht => (by obtain ⟨z, h9⟩ := VR.int ht h; cases h9), fun _ => h⟩
theorem HR.upd {ρ : Nat → Int} {T : HT} {s u : Nat} {M M2 : MM} {a : Nat} {kc kn : Nat} {F F2 : List (Option VV)} {A A2 : Nat} (h : HR ρ T s u M) (ho : bget 7 T a = some (kc, kn, F, A)) (h1 : M2.1 = M.1) (h2 : M2.2.1 = M.2.1) (h3 : M2.2.2.1 = M.2.2.1)
    (h4 : ∀ b j, b ≠ a → M2.2.2.2.2 b j = M.2.2.2.2 b j ∧ M2.2.2.2.1 b j = M.2.2.2.1 b j) (h5 : ∀ j, (kc < 20 ∨ j < kn) → CE ρ kc F2 A2 j (M2.2.2.2.2 a j) (M2.2.2.2.1 a j)) :
    HR ρ (bset 7 T a (kc, kn, F2, A2)) s u M2 := by
  refine ⟨h1.trans h.1, h2.trans h.2.1, fun b o hq => ?_⟩
  have hb := bget_lt 7 _ _ _ hq
  rw [bget_bset 7 T a b _ (bget_lt 7 _ _ _ ho) hb] at hq
  rw [h3]
  by_cases hba : b = a
  · rw [if_pos hba] at hq
    cases hq
    subst hba
    have := h.2.2 b _ ho
    exact ⟨this.1, this.2.1, h5⟩
  · rw [if_neg hba] at hq
    have := h.2.2 b o hq
    refine ⟨this.1, this.2.1, fun j hj2 => ?_⟩
    rw [(h4 b j hba).1, (h4 b j hba).2]
    exact this.2.2 j hj2
theorem HR.new {ρ : Nat → Int} {T : HT} {s u : Nat} {M : MM} {kc kn n : Nat} (h : HR ρ T s u M) (hs : s < 128) : HR ρ (bset 7 T s (kc, kn, [], 0)) (s + 1) (u + n) (M.1 + 1, M.2.1 + n, upk M.2.2.1 M.1 (kc, kn), upz M.2.2.2.1 M.1 none, upz M.2.2.2.2 M.1 0) := by
  refine ⟨congrArg (· + 1) h.1, congrArg (· + n) h.2.1, fun b o hq => ?_⟩
  have hb := bget_lt 7 _ _ _ hq
  rw [bget_bset 7 T s b _ (show s < 2 ^ 7 from hs) hb] at hq
  by_cases hbs : b = s
  · rw [if_pos hbs] at hq
    cases hq
    subst hbs
    refine ⟨Nat.lt_succ_self _, ?_, fun j _ => ?_⟩
    · show upk M.2.2.1 M.1 (kc, kn) b = _
      unfold upk
      rw [if_pos h.1.symm]
    · show CE ρ kc [] 0 j (upz M.2.2.2.2 M.1 0 b j) (upz M.2.2.2.1 M.1 none b j)
      unfold upz
      rw [if_pos h.1.symm, if_pos h.1.symm]
      refine ⟨fun _ _ => by rw [pget_0]; rfl, fun _ => ⟨fun _ => ⟨rfl, rfl⟩, fun w hw => by rw [fget_nil] at hw; cases hw⟩⟩
  · rw [if_neg hbs] at hq
    have hh := h.2.2 b o hq
    have hne : ¬ b = M.1 := fun q => hbs (q.trans h.1)
    refine ⟨Nat.lt_succ_of_lt hh.1, ?_, fun j hj2 => ?_⟩
    · show upk M.2.2.1 M.1 (kc, kn) b = _
      unfold upk
      rw [if_neg hne]
      exact hh.2.1
    · show CE ρ o.1 o.2.2.1 o.2.2.2 j (upz M.2.2.2.2 M.1 0 b j) (upz M.2.2.2.1 M.1 none b j)
      unfold upz
      rw [if_neg hne, if_neg hne]
      exact hh.2.2 j hj2
