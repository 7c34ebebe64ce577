/-! THE CHECKER: values of which bounds or types are known, a heap whose cells have types -/
/-- 0 a number, 1 a name's number and so much, 2 a place of a type, 3 such a place or none, 4 a long one, 5 none, 6 a place, 7 anything -/
abbrev AV : Type := Nat × Nat × Nat × Int
abbrev BC : Type := List (Int × Int)
/-- place, type, which cell, what it is -/
abbrev MFE : Type := Nat × Nat × AV × AV
abbrev PFE : Type := Nat × List AV
/-- cells of a type from one on to ahead of another -/
abbrev EF : Type := Nat × Nat × Nat
/-- kind, length, bounds of numbers, types of places -/
abbrev TYE : Type := Nat × Nat × List (Nat × Nat × Int × Int) × List (Nat × Nat × Nat × Bool)
abbrev aC (x : Int) : AV := (0, 0, 0, x)
abbrev aD : AV := (7, 0, 0, 0)
def AR (ρ : Nat → Int) (α Γ : Nat → Nat) (v : AV) (m : MV) : Prop := match v.1 with
  | 0 => m = vi v.2.2.2
  | 1 => m = vi (ρ v.2.1 + v.2.2.2)
  | 2 => m = vr (α v.2.1) ∧ Γ (α v.2.1) = v.2.2.1 ∧ v.2.2.1 ≠ 0
  | 3 => m = vn ∨ (m = vr (α v.2.1) ∧ Γ (α v.2.1) = v.2.2.1 ∧ v.2.2.1 ≠ 0)
  | 4 => (v.2.2.1 = 2 → m = vl (ρ v.2.1 + v.2.2.2)) ∧ ∃ x, m = vl x ∧ (v.2.2.1 = 1 → x ≠ 0)
  | 5 => m = vn
  | 6 => m = vr (α v.2.1)
  | _ => True
def ARs (ρ : Nat → Int) (α Γ : Nat → Nat) : List AV → List MV → Prop
  | [], [] => True
  | v :: a, m :: b => AR ρ α Γ v m ∧ ARs ρ α Γ a b
  | _, _ => False
def isI (v : AV) : Bool := Nat.ble v.1 1
def iv (ρ : Nat → Int) (v : AV) : Int := match v.1 with
  | 0 => v.2.2.2
  | _ => ρ v.2.1 + v.2.2.2
def BO (ρ : Nat → Int) (C : BC) : Prop := ∀ i, (bnd C i).1 ≤ ρ i ∧ ρ i ≤ (bnd C i).2
def ivl (C : BC) (v : AV) : Int × Int := match v.1 with
  | 0 => (v.2.2.2, v.2.2.2)
  | _ => ((bnd C v.2.1).1 + v.2.2.2, (bnd C v.2.1).2 + v.2.2.2)
theorem isI_iff {v : AV} : isI v = true ↔ v.1 = 0 ∨ v.1 = 1 := by
  unfold isI
  rw [ble_iff]
  omega
theorem AR.int {ρ : Nat → Int} {α Γ : Nat → Nat} {v : AV} {m : MV} (h : isI v = true) (r : AR ρ α Γ v m) : m = vi (iv ρ v) := by
  obtain ⟨t, i, a, c⟩ := v
  rcases isI_iff.mp h with h1 | h1
  · have h1 : t = 0 := h1
    subst h1
    exact r
  · have h1 : t = 1 := h1
    subst h1
    exact r
theorem AR.ofI {ρ : Nat → Int} {α Γ : Nat → Nat} {v : AV} (h : isI v = true) : AR ρ α Γ v (vi (iv ρ v)) := by
  obtain ⟨t, i, a, c⟩ := v
  rcases isI_iff.mp h with h1 | h1
  · have h1 : t = 0 := h1
    subst h1
    rfl
  · have h1 : t = 1 := h1
    subst h1
    rfl
theorem ivl_ok {ρ : Nat → Int} {C : BC} {v : AV} (hC : BO ρ C) (h : isI v = true) : (ivl C v).1 ≤ iv ρ v ∧ iv ρ v ≤ (ivl C v).2 := by
  obtain ⟨t, i, a, c⟩ := v
  rcases isI_iff.mp h with h1 | h1
  · have h1 : t = 0 := h1
    subst h1
    exact ⟨Int.le_refl _, Int.le_refl _⟩
  · have h1 : t = 1 := h1
    subst h1
    have := hC i
    show (bnd C i).1 + c ≤ ρ i + c ∧ ρ i + c ≤ (bnd C i).2 + c
    omega
theorem iv_c {ρ : Nat → Int} {v : AV} (h : Nat.beq v.1 0 = true) : iv ρ v = v.2.2.2 := by
  obtain ⟨t, i, a, c⟩ := v
  have h : t = 0 := beq_iff.mp h
  subst h
  rfl
theorem ARs.nil {ρ : Nat → Int} {α Γ : Nat → Nat} {b : List MV} (h : ARs ρ α Γ [] b) : b = [] := by
  cases b with
  | nil => rfl
  | cons _ _ => exact h.elim
theorem ARs.cons {ρ : Nat → Int} {α Γ : Nat → Nat} {v : AV} {a : List AV} {b : List MV} (h : ARs ρ α Γ (v :: a) b) : ∃ m t, b = m :: t ∧ AR ρ α Γ v m ∧ ARs ρ α Γ a t := by
  cases b with
  | nil => exact h.elim
  | cons m t => exact ⟨m, t, rfl, h.1, h.2⟩
theorem ARs.set {ρ : Nat → Int} {α Γ : Nat → Nat} : ∀ {a : List AV} {b : List MV} (i : Nat) {v : AV} {m : MV}, ARs ρ α Γ a b → AR ρ α Γ v m → ARs ρ α Γ (a.set i v) (b.set i m)
  | [], [], _, _, _, _, _ => trivial
  | [], _ :: _, _, _, _, h, _ => h.elim
  | _ :: _, [], _, _, _, h, _ => h.elim
  | _ :: _, _ :: _, 0, _, _, h, r => ⟨r, h.2⟩
  | _ :: a, _ :: b, i + 1, _, _, h, r => ⟨h.1, ARs.set (a := a) (b := b) i h.2 r⟩
theorem ARs.get {ρ : Nat → Int} {α Γ : Nat → Nat} : ∀ {a : List AV} {b : List MV} (i : Nat) {v : AV}, ARs ρ α Γ a b → a[i]? = some v → ∃ m, b[i]? = some m ∧ AR ρ α Γ v m
  | [], [], _, _, _, h => by cases h
  | [], _ :: _, _, _, h, _ => h.elim
  | _ :: _, [], _, _, h, _ => h.elim
  | _ :: _, m :: _, 0, _, h, h2 => by cases h2; exact ⟨m, rfl, h.1⟩
  | _ :: a, _ :: b, i + 1, _, h, h2 => ARs.get (a := a) (b := b) i h.2 h2
theorem ARs.len {ρ : Nat → Int} {α Γ : Nat → Nat} : ∀ {a : List AV} {b : List MV}, ARs ρ α Γ a b → a.length = b.length
  | [], [], _ => rfl
  | [], _ :: _, h => h.elim
  | _ :: _, [], h => h.elim
  | _ :: a, _ :: b, h => congrArg Nat.succ (ARs.len (a := a) (b := b) h.2)
theorem ARs.app {ρ : Nat → Int} {α Γ : Nat → Nat} : ∀ {a : List AV} {b : List MV} {c : List AV} {d : List MV}, ARs ρ α Γ a b → ARs ρ α Γ c d → ARs ρ α Γ (a ++ c) (b ++ d)
  | [], [], _, _, _, h => h
  | [], _ :: _, _, _, h, _ => h.elim
  | _ :: _, [], _, _, h, _ => h.elim
  | _ :: a, _ :: b, _, _, h, h2 => ⟨h.1, ARs.app (a := a) (b := b) h.2 h2⟩
theorem ARs.imp {ρ ρ' : Nat → Int} {α α' Γ Γ' : Nat → Nat} : ∀ {a : List AV} {b : List MV}, (∀ v ∈ a, ∀ m, AR ρ α Γ v m → AR ρ' α' Γ' v m) → ARs ρ α Γ a b → ARs ρ' α' Γ' a b
  | [], [], _, _ => trivial
  | [], _ :: _, _, h => h.elim
  | _ :: _, [], _, h => h.elim
  | v :: a, m :: b, hi, h => ⟨hi v List.mem_cons_self m h.1, ARs.imp (a := a) (b := b) (fun w hw => hi w (List.mem_cons_of_mem _ hw)) h.2⟩
/-! the heap's types -/
/-- kind 98, length 1: a row of any length, of which nothing is asked -/
def KD (y : TYE) (q : Nat × Nat) : Prop := (y.1 = 98 ∧ y.2.1 = 1) ∨ q = (y.1, y.2.1)
theorem KD_l {y : TYE} {q : Nat × Nat} (h : KD y q) (hn : y.2.1 ≠ 1) : q = (y.1, y.2.1) := h.resolve_left (fun w => hn w.2)
theorem KD_k {y : TYE} {q : Nat × Nat} (h : KD y q) (hn : y.1 ≠ 98) : q = (y.1, y.2.1) := h.resolve_left (fun w => hn w.1)
def HTy (Y : Nat → TYE) (Γ : Nat → Nat) (M : MM) : Prop := ∀ a, Γ a ≠ 0 → a < M.1 ∧ KD (Y (Γ a)) (M.2.2.1 a) ∧
  (∀ r ∈ (Y (Γ a)).2.2.1, ∀ j, r.1 ≤ j → j < r.2.1 → r.2.2.1 ≤ M.2.2.2.2 a j ∧ M.2.2.2.2 a j ≤ r.2.2.2) ∧
  (∀ r ∈ (Y (Γ a)).2.2.2, ∀ j, r.1 ≤ j → j < r.2.1 → (M.2.2.2.1 a j = none ∧ r.2.2.2 = true) ∨ ∃ b, M.2.2.2.1 a j = some b ∧ Γ b = r.2.2.1 ∧ r.2.2.1 ≠ 0)
/-- all but cells of E is as it was -/
def FRM (E : List EF) (Γ : Nat → Nat) (M M2 : MM) : Prop := M.1 ≤ M2.1 ∧ ∀ a, a < M.1 → M2.2.2.1 a = M.2.2.1 a ∧ ∀ j, (∀ e ∈ E, Γ a = e.1 → e.2.1 ≤ j → j < e.2.2 → Γ a = 0) → M2.2.2.2.2 a j = M.2.2.2.2 a j ∧ M2.2.2.2.1 a j = M.2.2.2.1 a j
def GEX (n : Nat) (Γ Γ2 : Nat → Nat) : Prop := ∀ a, a < n → Γ2 a = Γ a
def efIn (e : EF) (E : List EF) : Bool := E.any fun f => Nat.beq f.1 e.1 && (Nat.ble f.2.1 e.2.1 && Nat.ble e.2.2 f.2.2)
theorem efIn_ok {e : EF} {E : List EF} (h : efIn e E = true) : ∃ f ∈ E, f.1 = e.1 ∧ f.2.1 ≤ e.2.1 ∧ e.2.2 ≤ f.2.2 := by
  unfold efIn at h
  rw [List.any_eq_true] at h
  obtain ⟨f, h1, h2⟩ := h
  rw [Bool.and_eq_true, Bool.and_eq_true, beq_iff, ble_iff, ble_iff] at h2
  exact ⟨f, h1, h2.1, h2.2.1, h2.2.2⟩
def efsIn (E2 E : List EF) : Bool := E2.all fun e => efIn e E
theorem FRM.trans {E E2 : List EF} {Γ Γ2 : Nat → Nat} {M M2 M3 : MM} (h : FRM E Γ M M2) (hg : GEX M.1 Γ Γ2) (h2 : FRM E2 Γ2 M2 M3) (hE : efsIn E2 E = true) : FRM E Γ M M3 := by
  refine ⟨Nat.le_trans h.1 h2.1, fun a ha => ?_⟩
  obtain ⟨k1, c1⟩ := h.2 a ha
  obtain ⟨k2, c2⟩ := h2.2 a (Nat.lt_of_lt_of_le ha h.1)
  refine ⟨k2.trans k1, fun j hj => ?_⟩
  have q1 := c1 j hj
  have q2 := c2 j (fun e he h3 h4 h5 => by
    unfold efsIn at hE
    rw [List.all_eq_true] at hE
    obtain ⟨f, f1, f2, f3, f4⟩ := efIn_ok (hE e he)
    rw [hg a ha] at h3 ⊢
    exact hj f f1 (h3.trans f2.symm) (Nat.le_trans f3 h4) (Nat.lt_of_lt_of_le h5 f4))
  exact ⟨q2.1.trans q1.1, q2.2.trans q1.2⟩
theorem FRM.refl (E : List EF) (Γ : Nat → Nat) (M : MM) : FRM E Γ M M := ⟨Nat.le_refl _, fun _ _ => ⟨rfl, fun _ _ => ⟨rfl, rfl⟩⟩⟩
/-! what is known of cells -/
def MFok (ρ : Nat → Int) (α Γ : Nat → Nat) (M : MM) (f : MFE) : Prop := Γ (α f.1) = f.2.1 ∧ f.2.1 ≠ 0 ∧ isI f.2.2.1 = true ∧ 0 ≤ iv ρ f.2.2.1 ∧
  ((isI f.2.2.2 = true ∧ M.2.2.2.2 (α f.1) (iv ρ f.2.2.1).toNat = iv ρ f.2.2.2) ∨ (isI f.2.2.2 = false ∧ AR ρ α Γ f.2.2.2 (vq (M.2.2.2.1 (α f.1) (iv ρ f.2.2.1).toNat))))
def valO (ρ : Nat → Int) (α : Nat → Nat) (v : AV) : MV := match v.1 with
  | 0 => vi v.2.2.2
  | 1 => vi (ρ v.2.1 + v.2.2.2)
  | 2 => vr (α v.2.1)
  | 6 => vr (α v.2.1)
  | _ => vn
/-- a ghost's mark off -/
def unG (v : AV) : AV := (v.1, v.2.1, 0, v.2.2.2)
def unGs (l : List AV) : List AV := l.map fun v => cond (Nat.beq v.1 1) (unG v) v
theorem valO_unGs (ρ : Nat → Int) (α : Nat → Nat) (l : List AV) : (unGs l).map (valO ρ α) = l.map (valO ρ α) := by
  unfold unGs
  rw [List.map_map]
  refine List.map_congr_left fun v _ => ?_
  show valO ρ α (cond (Nat.beq v.1 1) (unG v) v) = valO ρ α v
  cases h : Nat.beq v.1 1 <;> rfl
theorem valO_int {ρ : Nat → Int} {α : Nat → Nat} {v : AV} (h : isI v = true) : valO ρ α v = vi (iv ρ v) := by
  obtain ⟨t, i, a, c⟩ := v
  rcases isI_iff.mp h with h1 | h1
  · have h1 : t = 0 := h1
    subst h1
    rfl
  · have h1 : t = 1 := h1
    subst h1
    rfl
theorem valO_ref {ρ : Nat → Int} {α : Nat → Nat} {v : AV} (h : v.1 = 2) : valO ρ α v = vr (α v.2.1) := by
  obtain ⟨t, i, a, c⟩ := v
  have h : t = 2 := h
  subst h
  rfl
theorem valO_c {ρ : Nat → Int} {α : Nat → Nat} {v : AV} (h : v.1 = 0) : valO ρ α v = vi v.2.2.2 := by
  obtain ⟨t, i, a, c⟩ := v
  have h : t = 0 := h
  subst h
  rfl
theorem AR.val {ρ : Nat → Int} {α Γ : Nat → Nat} {v : AV} {m : MV} (r : AR ρ α Γ v m) (h : Nat.ble v.1 2 = true) : m = valO ρ α v := by
  obtain ⟨t, i, a, c⟩ := v
  have h := ble_iff.mp h
  have h : t ≤ 2 := h
  rcases (by omega : t = 0 ∨ t = 1 ∨ t = 2) with rfl | rfl | rfl
  · exact r
  · exact r
  · exact r.1
/-- has nothing of the name n -/
def nfI (n : Nat) (v : AV) : Bool := not ((Nat.beq v.1 1 || (Nat.beq v.1 4 && Nat.beq v.2.2.1 2)) && Nat.beq v.2.1 n)
def nfR (n : Nat) (v : AV) : Bool := not ((Nat.beq v.1 2 || (Nat.beq v.1 3 || Nat.beq v.1 6)) && Nat.beq v.2.1 n)
def upI (ρ : Nat → Int) (n : Nat) (x : Int) : Nat → Int := fun i => if i = n then x else ρ i
def upA (α : Nat → Nat) (n a : Nat) : Nat → Nat := fun i => if i = n then a else α i
theorem AR_upI {ρ : Nat → Int} {α Γ : Nat → Nat} {v : AV} {n : Nat} {x : Int} (h : nfI n v = true) (m : MV) : AR (upI ρ n x) α Γ v m ↔ AR ρ α Γ v m := by
  obtain ⟨t, i, a, c⟩ := v
  match t, h with
  | 0, _ => exact Iff.rfl
  | 1, h =>
    have hi : i ≠ n := fun q => by
      subst q
      have h : (not ((true || (Nat.beq 1 4 && Nat.beq a 2)) && Nat.beq i i)) = true := h
      rw [beq_iff.mpr (rfl : i = i)] at h
      cases h
    show m = vi (upI ρ n x i + c) ↔ m = vi (ρ i + c)
    unfold upI
    rw [if_neg hi]
  | 2, _ => exact Iff.rfl
  | 3, _ => exact Iff.rfl
  | 4, h =>
    have hi : a = 2 → i ≠ n := fun qa q => by
      subst q
      subst qa
      have h : (not ((Nat.beq 4 1 || (Nat.beq 4 4 && Nat.beq 2 2)) && Nat.beq i i)) = true := h
      rw [beq_iff.mpr (rfl : i = i)] at h
      cases h
    show ((a = 2 → m = vl (upI ρ n x i + c)) ∧ ∃ x, m = vl x ∧ (a = 1 → x ≠ 0)) ↔ ((a = 2 → m = vl (ρ i + c)) ∧ ∃ x, m = vl x ∧ (a = 1 → x ≠ 0))
    by_cases qa : a = 2
    · have e : upI ρ n x i = ρ i := if_neg (hi qa)
      rw [e]
    · exact ⟨fun w => ⟨fun q => absurd q qa, w.2⟩, fun w => ⟨fun q => absurd q qa, w.2⟩⟩
  | 5, _ => exact Iff.rfl
  | 6, _ => exact Iff.rfl
  | t + 7, _ => exact Iff.rfl
theorem iv_upI {ρ : Nat → Int} {v : AV} {n : Nat} {x : Int} (hI : isI v = true) (h : nfI n v = true) : iv (upI ρ n x) v = iv ρ v := by
  have h1 := (AR_upI (ρ := ρ) (α := fun _ => 0) (Γ := fun _ => 0) (x := x) h (vi (iv ρ v))).mpr (AR.ofI hI)
  have h2 := h1.int hI
  exact (Sum.inl.inj h2).symm
theorem valO_upI {ρ : Nat → Int} {α : Nat → Nat} {v : AV} {n : Nat} {x : Int} (h : nfI n v = true) : valO (upI ρ n x) α v = valO ρ α v := by
  obtain ⟨t, i, a, c⟩ := v
  match t, h with
  | 0, _ => rfl
  | 1, h =>
    have hi : i ≠ n := fun q => by
      subst q
      have h : (not ((true || (Nat.beq 1 4 && Nat.beq a 2)) && Nat.beq i i)) = true := h
      rw [beq_iff.mpr (rfl : i = i)] at h
      cases h
    show vi (upI ρ n x i + c) = vi (ρ i + c)
    unfold upI
    rw [if_neg hi]
  | 2, _ => rfl
  | 3, _ => rfl
  | 4, _ => rfl
  | 5, _ => rfl
  | 6, _ => rfl
  | t + 7, _ => rfl
theorem nfR_ne {n t i a : Nat} {c : Int} (ht : (Nat.beq t 2 || (Nat.beq t 3 || Nat.beq t 6)) = true) (h : nfR n (t, i, a, c) = true) : i ≠ n := fun q => by
  subst q
  have h : (not ((Nat.beq t 2 || (Nat.beq t 3 || Nat.beq t 6)) && Nat.beq i i)) = true := h
  rw [ht, beq_iff.mpr rfl] at h
  cases h
theorem AR_upA {ρ : Nat → Int} {α Γ : Nat → Nat} {v : AV} {n b : Nat} (h : nfR n v = true) (m : MV) : AR ρ (upA α n b) Γ v m ↔ AR ρ α Γ v m := by
  obtain ⟨t, i, a, c⟩ := v
  match t, h with
  | 0, _ => exact Iff.rfl
  | 1, _ => exact Iff.rfl
  | 2, h =>
    show (m = vr (upA α n b i) ∧ Γ (upA α n b i) = a ∧ a ≠ 0) ↔ _
    unfold upA
    rw [if_neg (nfR_ne rfl h)]
    exact Iff.rfl
  | 3, h =>
    show (m = vn ∨ (m = vr (upA α n b i) ∧ Γ (upA α n b i) = a ∧ a ≠ 0)) ↔ _
    unfold upA
    rw [if_neg (nfR_ne rfl h)]
    exact Iff.rfl
  | 4, _ => exact Iff.rfl
  | 5, _ => exact Iff.rfl
  | 6, h =>
    show m = vr (upA α n b i) ↔ _
    unfold upA
    rw [if_neg (nfR_ne rfl h)]
    exact Iff.rfl
  | t + 7, _ => exact Iff.rfl
theorem valO_upA {ρ : Nat → Int} {α : Nat → Nat} {v : AV} {n b : Nat} (h : nfR n v = true) : valO ρ (upA α n b) v = valO ρ α v := by
  obtain ⟨t, i, a, c⟩ := v
  match t, h with
  | 0, _ => rfl
  | 1, _ => rfl
  | 2, h =>
    show vr (upA α n b i) = vr (α i)
    unfold upA
    rw [if_neg (nfR_ne rfl h)]
  | 3, _ => rfl
  | 4, _ => rfl
  | 5, _ => rfl
  | 6, h =>
    show vr (upA α n b i) = vr (α i)
    unfold upA
    rw [if_neg (nfR_ne rfl h)]
  | t + 7, _ => rfl
/-- locals, stack, bounds, the next place's name, cells, what else is known, cells and slots made -/
abbrev SE : Type := List AV × List AV × BC × Nat × List MFE × List PFE × Nat × Nat
abbrev GE : Type := Nat → SE → Bool
abbrev PST : Type := Nat → List MV → (Nat → Nat) → MM → Prop
def MFs (ρ : Nat → Int) (α Γ : Nat → Nat) (M : MM) (l : List MFE) : Prop := ∀ f ∈ l, MFok ρ α Γ M f
def PFs (PS : PST) (ρ : Nat → Int) (α Γ : Nat → Nat) (M : MM) (l : List PFE) : Prop := ∀ f ∈ l, PS f.1 (f.2.map (valO ρ α)) Γ M
def BASE (E : List EF) (Γ0 : Nat → Nat) (M0 : MM) (ao as : Nat) (Γ : Nat → Nat) (M : MM) : Prop := FRM E Γ0 M0 M ∧ GEX M0.1 Γ0 Γ ∧ M.1 ≤ M0.1 + ao ∧ M.2.1 ≤ M0.2.1 + as
def REL (Y : Nat → TYE) (PS : PST) (E : List EF) (Γ0 : Nat → Nat) (M0 : MM) (ρ : Nat → Int) (α Γ : Nat → Nat) (M : MM) (S : SE) (ls2 st2 : List MV) : Prop :=
  HTy Y Γ M ∧ BO ρ S.2.2.1 ∧ ARs ρ α Γ S.1 ls2 ∧ ARs ρ α Γ S.2.1 st2 ∧ MFs ρ α Γ M S.2.2.2.2.1 ∧ PFs PS ρ α Γ M S.2.2.2.2.2.1 ∧ BASE E Γ0 M0 S.2.2.2.2.2.2.1 S.2.2.2.2.2.2.2 Γ M
def frI (n : Nat) (S : SE) : Bool := S.1.all (nfI n) && (S.2.1.all (nfI n) && (S.2.2.2.2.1.all (fun f => nfI n f.2.2.1 && nfI n f.2.2.2) && S.2.2.2.2.2.1.all (fun p => p.2.all (nfI n))))
def frR (n : Nat) (S : SE) : Bool := S.1.all (nfR n) && (S.2.1.all (nfR n) && (S.2.2.2.2.1.all (fun f => not (Nat.beq f.1 n) && nfR n f.2.2.2) && S.2.2.2.2.2.1.all (fun p => p.2.all (nfR n))))
theorem bnd_app {C : BC} {p : Int × Int} {ρ : Nat → Int} {x : Int} (h : BO ρ C) (h1 : p.1 ≤ x) (h2 : x ≤ p.2) : BO (upI ρ C.length x) (C ++ [p]) := by
  intro i
  unfold upI bnd
  by_cases hi : i = C.length
  · subst hi
    rw [if_pos rfl, List.getD_eq_getElem?_getD, List.getElem?_append_right (Nat.le_refl _), Nat.sub_self]
    exact ⟨h1, h2⟩
  · rw [if_neg hi]
    have := h i
    unfold bnd at this
    by_cases hl : i < C.length
    · rw [List.getD_eq_getElem?_getD, List.getElem?_append_left hl, ← List.getD_eq_getElem?_getD]
      exact this
    · rw [List.getD_eq_getElem?_getD, List.getElem?_eq_none (by omega)] at this
      rw [List.getD_eq_getElem?_getD, List.getElem?_eq_none (by rw [List.length_append]; simp only [List.length_cons, List.length_nil]; omega)]
      exact this
/-- a new name for a number of these bounds -/
def nmI (p : Int × Int) (S : SE) (k : AV → SE → Bool) : Bool := frI S.2.2.1.length S && k (1, S.2.2.1.length, 0, 0) (S.1, S.2.1, S.2.2.1 ++ [p], S.2.2.2)
theorem nmI_ok {Y : Nat → TYE} {PS : PST} {E : List EF} {Γ0 : Nat → Nat} {M0 : MM} {ρ : Nat → Int} {α Γ : Nat → Nat} {M : MM} {S : SE} {ls2 st2 : List MV} {p : Int × Int} {k : AV → SE → Bool} (h : nmI p S k = true) (r : REL Y PS E Γ0 M0 ρ α Γ M S ls2 st2) {x : Int} (h1 : p.1 ≤ x) (h2 : x ≤ p.2) : ∃ ρ2 v S2, k v S2 = true ∧ isI v = true ∧ iv ρ2 v = x ∧ S2 = (S.1, S.2.1, S.2.2.1 ++ [p], S.2.2.2) ∧ v = (1, S.2.2.1.length, 0, 0) ∧ (∀ w, nfI S.2.2.1.length w = true → isI w = true → iv ρ2 w = iv ρ w) ∧ REL Y PS E Γ0 M0 ρ2 α Γ M S2 ls2 st2 := by
  obtain ⟨hf, hk⟩ := bb2 h
  obtain ⟨f1, f2⟩ := bb2 hf
  obtain ⟨f2, f3⟩ := bb2 f2
  obtain ⟨f3, f4⟩ := bb2 f3
  rw [List.all_eq_true] at f1 f2 f3 f4
  obtain ⟨r1, r2, r3, r4, r5, r6, r7⟩ := r
  refine ⟨upI ρ S.2.2.1.length x, _, _, hk, rfl, ?_, rfl, rfl, fun w q1 q2 => iv_upI q2 q1, r1, bnd_app r2 h1 h2, r3.imp fun v hv m => (AR_upI (f1 v hv) m).mpr, r4.imp fun v hv m => (AR_upI (f2 v hv) m).mpr, fun f hq => ?_, fun f hq => ?_, r7⟩
  · show upI ρ S.2.2.1.length x S.2.2.1.length + 0 = x
    unfold upI
    rw [if_pos rfl, Int.add_zero]
  · obtain ⟨g1, g2⟩ := bb2 (f3 f hq)
    obtain ⟨a1, a2, a3, a4, a5⟩ := r5 f hq
    refine ⟨a1, a2, a3, ?_, ?_⟩
    · rw [iv_upI a3 g1]; exact a4
    · rw [iv_upI a3 g1]
      rcases a5 with ⟨b1, b2⟩ | ⟨b1, b2⟩
      · exact Or.inl ⟨b1, by rw [iv_upI b1 g2]; exact b2⟩
      · exact Or.inr ⟨b1, (AR_upI g2 _).mpr b2⟩
  · have h9 := r6 f hq
    have e : f.2.map (valO (upI ρ S.2.2.1.length x) α) = f.2.map (valO ρ α) := by
      apply List.map_congr_left
      intro v hv
      have := f4 f hq
      rw [List.all_eq_true] at this
      exact valO_upI (this v hv)
    rw [e]
    exact h9
