/-! what the evaluator's values, rows and heaps stand for -/
def VR (ρ : Nat → Int) (v : VV) (m : MV) : Prop := match v with
  | .inl a => m = a
  | .inr (t, a, b) => (t = 0 ∧ ∃ x, m = vi x) ∨ (t = 1 ∧ ∃ x, m = vl x) ∨ (t = 2 ∧ m = vi (ρ a.toNat)) ∨ (t = 3 ∧ m = vl (ρ a.toNat)) ∨ (t = 4 ∧ m = vi (wr (ρ a.toNat))) ∨ (t = 5 ∧ ∃ x, m = vi x ∧ a ≤ x ∧ x ≤ b) ∨ (t = 6 ∧ m = vl (lShl (ρ a.toNat) 32)) ∨ (t = 7 ∧ m = vl (lAnd (ρ a.toNat) 4294967295))
theorem VR.ofC {ρ : Nat → Int} (a : MV) : VR ρ (.inl a) a := rfl
theorem VR.any (ρ : Nat → Int) (x : Int) : VR ρ aI (vi x) := Or.inl ⟨rfl, x, rfl⟩
theorem beq_iff {a b : Nat} : Nat.beq a b = true ↔ a = b := by rw [Nat.beq_eq]
theorem tyT_0 {t : Nat} (h : tyT t = 0) : t = 0 ∨ t = 2 ∨ t = 4 ∨ t = 5 := by
  match t, h with
  | 0, _ => exact Or.inl rfl
  | 1, h => cases h
  | 2, _ => exact Or.inr (Or.inl rfl)
  | 3, h => cases h
  | 4, _ => exact Or.inr (Or.inr (Or.inl rfl))
  | 5, _ => exact Or.inr (Or.inr (Or.inr rfl))
  | 6, h => cases h
  | 7, h => cases h
  | t + 8, h => cases h
theorem tyT_1 {t : Nat} (h : tyT t = 1) : t = 1 ∨ t = 3 ∨ t = 6 ∨ t = 7 := by
  match t, h with
  | 0, h => cases h
  | 1, _ => exact Or.inl rfl
  | 2, h => cases h
  | 3, _ => exact Or.inr (Or.inl rfl)
  | 4, h => cases h
  | 5, h => cases h
  | 6, _ => exact Or.inr (Or.inr (Or.inl rfl))
  | 7, _ => exact Or.inr (Or.inr (Or.inr rfl))
  | t + 8, h => cases h
theorem tyT_2 {t : Nat} (h : tyT t = 2) : False := by
  match t, h with
  | 0, h => cases h
  | 1, h => cases h
  | 2, h => cases h
  | 3, h => cases h
  | 4, h => cases h
  | 5, h => cases h
  | 6, h => cases h
  | 7, h => cases h
  | t + 8, h => cases h
theorem VR.int {ρ : Nat → Int} {v : VV} {m : MV} (h : ty v = 0) (r : VR ρ v m) : ∃ x, m = vi x := by
  match v, h, r with
  | .inl (.inl x), _, r => exact ⟨x, r⟩
  | .inl (.inr (.inl x)), h, _ => cases h
  | .inl (.inr (.inr q)), h, _ => cases h
  | .inr (t, a, b), h, r =>
    rcases tyT_0 (show tyT t = 0 from h) with rfl | rfl | rfl | rfl <;> rcases r with ⟨h9, x, r⟩ | ⟨h9, x, r⟩ | ⟨h9, r⟩ | ⟨h9, r⟩ | ⟨h9, r⟩ | ⟨h9, x, r, _⟩ | ⟨h9, r⟩ | ⟨h9, r⟩ <;> first | (cases h9; done) | exact ⟨_, r⟩
theorem VR.lng {ρ : Nat → Int} {v : VV} {m : MV} (h : ty v = 1) (r : VR ρ v m) : ∃ x, m = vl x := by
  match v, h, r with
  | .inl (.inl x), h, _ => cases h
  | .inl (.inr (.inl x)), _, r => exact ⟨x, r⟩
  | .inl (.inr (.inr q)), h, _ => cases h
  | .inr (t, a, b), h, r =>
    rcases tyT_1 (show tyT t = 1 from h) with rfl | rfl | rfl | rfl <;> rcases r with ⟨h9, x, r⟩ | ⟨h9, x, r⟩ | ⟨h9, r⟩ | ⟨h9, r⟩ | ⟨h9, r⟩ | ⟨h9, x, r, _⟩ | ⟨h9, r⟩ | ⟨h9, r⟩ <;> first | (cases h9; done) | exact ⟨_, r⟩
theorem VR.plc {ρ : Nat → Int} {v : VV} {m : MV} (h : ty v = 2) (r : VR ρ v m) : ∃ q, v = .inl (vq q) ∧ m = vq q := by
  match v, h, r with
  | .inl (.inl x), h, _ => cases h
  | .inl (.inr (.inl x)), h, _ => cases h
  | .inl (.inr (.inr q)), _, r => exact ⟨q, rfl, r⟩
  | .inr (t, a, b), h, r => exact (tyT_2 (show tyT t = 2 from h)).elim
theorem VR.ty3 {ρ : Nat → Int} {v : VV} {m : MV} (r : VR ρ v m) : ty v = 0 ∨ ty v = 1 ∨ ty v = 2 := by
  match v, r with
  | .inl (.inl x), _ => exact Or.inl rfl
  | .inl (.inr (.inl x)), _ => exact Or.inr (Or.inl rfl)
  | .inl (.inr (.inr q)), _ => exact Or.inr (Or.inr rfl)
  | .inr (t, a, b), r =>
    rcases r with ⟨h9, x, r⟩ | ⟨h9, x, r⟩ | ⟨h9, r⟩ | ⟨h9, r⟩ | ⟨h9, r⟩ | ⟨h9, x, r, _⟩ | ⟨h9, r⟩ | ⟨h9, r⟩ <;> subst h9
    · exact Or.inl rfl
    · exact Or.inr (Or.inl rfl)
    · exact Or.inl rfl
    · exact Or.inr (Or.inl rfl)
    · exact Or.inl rfl
    · exact Or.inl rfl
    · exact Or.inr (Or.inl rfl)
    · exact Or.inr (Or.inl rfl)
theorem VR.wd {ρ : Nat → Int} {v : VV} {m : MV} (r : VR ρ v m) : wd m = wdV v := by
  rcases r.ty3 with h | h | h
  · obtain ⟨x, rfl⟩ := VR.int h r
    show 1 = wdV v; unfold wdV; rw [h]; rfl
  · obtain ⟨x, rfl⟩ := VR.lng h r
    show 2 = wdV v; unfold wdV; rw [h]; rfl
  · obtain ⟨q, -, rfl⟩ := VR.plc h r
    show 1 = wdV v; unfold wdV; rw [h]; rfl
def VRs (ρ : Nat → Int) : List VV → List MV → Prop
  | [], [] => True
  | v :: a, m :: b => VR ρ v m ∧ VRs ρ a b
  | _, _ => False
theorem VRs.nil {ρ : Nat → Int} {b : List MV} (h : VRs ρ [] b) : b = [] := by
  cases b with
  | nil => rfl
  | cons _ _ => exact h.elim
theorem VRs.cons {ρ : Nat → Int} {v : VV} {a : List VV} {b : List MV} (h : VRs ρ (v :: a) b) : ∃ m t, b = m :: t ∧ VR ρ v m ∧ VRs ρ a t := by
  cases b with
  | nil => exact h.elim
  | cons m t => exact ⟨m, t, rfl, h.1, h.2⟩
theorem VRs.len {ρ : Nat → Int} : ∀ {a : List VV} {b : List MV}, VRs ρ a b → a.length = b.length
  | [], [], _ => rfl
  | [], _ :: _, h => h.elim
  | _ :: _, [], h => h.elim
  | _ :: a, _ :: b, h => congrArg Nat.succ (VRs.len (a := a) (b := b) h.2)
theorem VRs.set {ρ : Nat → Int} : ∀ {a : List VV} {b : List MV} (i : Nat) {v : VV} {m : MV}, VRs ρ a b → VR ρ v m → VRs ρ (a.set i v) (b.set i m)
  | [], [], _, _, _, _, _ => trivial
  | [], _ :: _, _, _, _, h, _ => h.elim
  | _ :: _, [], _, _, _, h, _ => h.elim
  | _ :: _, _ :: _, 0, _, _, h, r => ⟨r, h.2⟩
  | _ :: a, _ :: b, i + 1, _, _, h, r => ⟨h.1, VRs.set (a := a) (b := b) i h.2 r⟩
theorem VRs.get {ρ : Nat → Int} : ∀ {a : List VV} {b : List MV} (i : Nat), VRs ρ a b → (∃ m, b[i]? = some m ∧ VR ρ (lget i a) m) ∨ (b[i]? = none ∧ lget i a = cN)
  | [], [], 0, _ => Or.inr ⟨rfl, rfl⟩
  | [], [], _ + 1, _ => Or.inr ⟨rfl, rfl⟩
  | [], _ :: _, _, h => h.elim
  | _ :: _, [], _, h => h.elim
  | _ :: _, m :: _, 0, h => Or.inl ⟨m, rfl, h.1⟩
  | _ :: a, _ :: b, i + 1, h => VRs.get (a := a) (b := b) i h.2
theorem VRs.app {ρ : Nat → Int} : ∀ {a : List VV} {b : List MV} {c : List VV} {d : List MV}, VRs ρ a b → VRs ρ c d → VRs ρ (a ++ c) (b ++ d)
  | [], [], _, _, _, h => h
  | [], _ :: _, _, _, h, _ => h.elim
  | _ :: _, [], _, _, h, _ => h.elim
  | _ :: a, _ :: b, _, _, h, h2 => ⟨h.1, VRs.app (a := a) (b := b) h.2 h2⟩
theorem VRs.wds {ρ : Nat → Int} : ∀ {a : List VV} {b : List MV}, VRs ρ a b → wds b = wdsV a
  | [], [], _ => rfl
  | [], _ :: _, h => h.elim
  | _ :: _, [], h => h.elim
  | v :: a, m :: b, h => by
    show (List.map wd (m :: b)).sum = Nat.add (wdV v) (wdsV a)
    rw [List.map_cons, List.sum_cons, h.1.wd, ← VRs.wds (a := a) (b := b) h.2]
    rfl
theorem fL_ok {ρ : Nat → Int} {t : Nat} {v : VV} {k : VV → Bool} (h : fL t v k = true) : k v = true ∧ ty v = t ∧ v ≠ cN := by
  match v, h with
  | .inl (.inl x), h =>
    have h : cond (Nat.beq t 0) (k (ci x)) false = true := h
    cases hc : Nat.beq t 0 with
    | false => rw [hc] at h; cases h
    | true => rw [hc] at h; rw [beq_iff] at hc; subst hc; exact ⟨h, rfl, fun h9 => by cases h9⟩
  | .inl (.inr (.inl x)), h =>
    have h : cond (Nat.beq t 1) (k (cL x)) false = true := h
    cases hc : Nat.beq t 1 with
    | false => rw [hc] at h; cases h
    | true => rw [hc] at h; rw [beq_iff] at hc; subst hc; exact ⟨h, rfl, fun h9 => by cases h9⟩
  | .inl (.inr (.inr (some a))), h =>
    have h : cond (Nat.beq t 2) (k (cR a)) false = true := h
    cases hc : Nat.beq t 2 with
    | false => rw [hc] at h; cases h
    | true => rw [hc] at h; rw [beq_iff] at hc; subst hc; exact ⟨h, rfl, fun h9 => by cases h9⟩
  | .inl (.inr (.inr none)), h => cases h
  | .inr (g, a, b), h =>
    have h : cond (Nat.beq (tyT g) t) (k (.inr (g, a, b))) false = true := h
    cases hc : Nat.beq (tyT g) t with
    | false => rw [hc] at h; cases h
    | true => rw [hc] at h; rw [beq_iff] at hc; exact ⟨h, hc, fun h9 => by cases h9⟩
theorem klK_ok {ρ : Nat → Int} {i : Nat} {ls : List VV} {ls2 : List MV} {k : List VV → Bool} (h : klK i ls k = true) (r : VRs ρ ls ls2) : ∃ l1, VRs ρ l1 (kl ls2 i) ∧ k l1 = true := by
  unfold klK at h
  cases hc : Nat.beq (ty (lget (Nat.sub i 1) ls)) 1 with
  | true =>
    rw [hc] at h
    obtain ⟨-, h⟩ := lsetK_eq _ _ _ _ h
    rw [beq_iff] at hc
    refine ⟨_, ?_, h⟩
    rcases r.get (i - 1) with ⟨m, h1, h2⟩ | ⟨h1, h2⟩
    · obtain ⟨x, rfl⟩ := VR.lng hc h2
      have e : kl ls2 i = ls2.set (i - 1) vn := by
        unfold kl
        rw [h1]
      rw [e]
      exact r.set _ rfl
    · rw [show lget (Nat.sub i 1) ls = cN from h2] at hc
      cases hc
  | false =>
    rw [hc] at h
    refine ⟨ls, ?_, h⟩
    have e : kl ls2 i = ls2 := by
      unfold kl
      rcases r.get (i - 1) with ⟨m, h1, h2⟩ | ⟨h1, h2⟩
      · rw [h1]
        match m, h2 with
        | .inl x, _ => rfl
        | .inr (.inr q), _ => rfl
        | .inr (.inl x), h2 =>
          exfalso
          have h3 : ty (lget (Nat.sub i 1) ls) = 1 := by
            rcases h2.ty3 with h4 | h4 | h4
            · obtain ⟨z, h5⟩ := VR.int h4 h2; cases h5
            · exact h4
            · obtain ⟨z, -, h5⟩ := VR.plc h4 h2; cases h5
          rw [h3] at hc
          cases hc
      · rw [h1]
    rw [e]
    exact r
/-- bounds -/
def BS (ρ : Nat → Int) (C : CT) : Prop := (ρ 6 = aNd (ρ 0) 63 ∧ ρ 7 = lOr (lShl (ρ 2) 32) (lAnd (ρ 3) 4294967295)) ∧ ∀ i, (bnd C i).1 ≤ ρ i ∧ ρ i ≤ (bnd C i).2
theorem BS.set {ρ : Nat → Int} {C : CT} {i : Nat} {p : Int × Int} (h : BS ρ C) (h1 : p.1 ≤ ρ i) (h2 : ρ i ≤ p.2) : BS ρ (C.set i p) := by
  by_cases hl : i < C.length
  · refine ⟨h.1, fun j => ?_⟩
    by_cases hj : j = i
    · subst hj
      unfold bnd
      rw [List.getD_eq_getElem?_getD, List.getElem?_set, if_pos rfl, if_pos hl]
      exact ⟨h1, h2⟩
    · have e : bnd (C.set i p) j = bnd C j := by
        unfold bnd
        rw [List.getD_eq_getElem?_getD, List.getElem?_set_ne (fun q => hj q.symm), ← List.getD_eq_getElem?_getD]
      rw [e]
      exact h.2 j
  · rw [List.set_eq_of_length_le (by omega)]
    exact h
/-- cells -/
def isN (kc : Nat) : Bool := Nat.beq kc 20 || (Nat.beq kc 21 || Nat.beq kc 23)
def CE (ρ : Nat → Int) (kc : Nat) (F : List (Option VV)) (A j : Nat) (x : Int) (q : Option Nat) : Prop :=
  (isN kc = true → F = [] → VR ρ (dec (pget A j)) (vi x)) ∧ (isN kc = false → (fget j F = none → x = 0 ∧ q = none) ∧ ∀ w, fget j F = some w → VR ρ w (vi x) ∨ VR ρ w (vq q))
def HR (ρ : Nat → Int) (T : HT) (s u : Nat) (M : MM) : Prop := M.1 = s ∧ M.2.1 = u ∧ ∀ a o, bget 7 T a = some o → a < s ∧ M.2.2.1 a = (o.1, o.2.1) ∧
  ∀ j, (o.1 < 20 ∨ j < o.2.1) → CE ρ o.1 o.2.2.1 o.2.2.2 j (M.2.2.2.2 a j) (M.2.2.2.1 a j)
theorem dec_big {c : Nat} (h : 4294967296 ≤ c) : dec c = decS (Nat.sub c 4294967296) := by
  have e1 : Nat.ble c 2147483647 = false := by
    cases q : Nat.ble c 2147483647 with
    | false => rfl
    | true => have := blm q; omega
  have e2 : Nat.ble c 4294967295 = false := by
    cases q : Nat.ble c 4294967295 with
    | false => rfl
    | true => have := blm q; omega
  unfold dec
  rw [e1, cond_false, e2, cond_false]
theorem dec_ok {ρ : Nat → Int} {v : VV} {c : Nat} {m : MV} (h : enc v = some c) (r : VR ρ v m) : c < 2 ^ 40 ∧ VR ρ (dec c) m := by
  unfold enc at h
  split at h
  · rename_i n
    cases hc : Nat.ble n 2147483647 with
    | false => rw [hc] at h; cases h
    | true =>
      rw [hc, cond_true] at h
      cases h
      have h1 := blm hc
      refine ⟨by omega, ?_⟩
      unfold dec
      rw [hc, cond_true]
      exact r
  · rename_i n
    cases hc : Nat.ble n 2147483647 with
    | false => rw [hc] at h; cases h
    | true =>
      rw [hc, cond_true] at h
      have h1 := blm hc
      have e : c = 4294967295 - n := (Option.some.inj h).symm
      have e1 : Nat.ble c 2147483647 = false := by
        cases q : Nat.ble c 2147483647 with
        | false => rfl
        | true => have := blm q; omega
      have e2 : Nat.ble c 4294967295 = true := ble_iff.mpr (by omega)
      have e3 : Nat.sub 4294967295 c = n := by show 4294967295 - c = n; omega
      refine ⟨by omega, ?_⟩
      unfold dec
      rw [e1, cond_false, e2, cond_true, e3]
      exact r
  · have e : c = 4294967296 := (Option.some.inj h).symm
    subst e
    refine ⟨by decide, ?_⟩
    obtain ⟨x, rfl⟩ := VR.int rfl r
    exact VR.any ρ x
  · rename_i i z
    cases hc : Nat.ble i 15 with
    | false => rw [hc] at h; cases h
    | true =>
      rw [hc, cond_true] at h
      have h1 := blm hc
      have e : c = 4294967297 + i := (Option.some.inj h).symm
      rw [dec_big (by omega), show Nat.sub c 4294967296 = i + 1 by show c - 4294967296 = i + 1; omega]
      refine ⟨by omega, ?_⟩
      unfold decS
      rw [show Nat.beq (i + 1) 0 = false from rfl, cond_false, ble_iff.mpr (show i + 1 ≤ 16 by omega), cond_true]
      rcases r with ⟨h9, -⟩ | ⟨h9, -⟩ | ⟨-, r⟩ | ⟨h9, -⟩ | ⟨h9, -⟩ | ⟨h9, -⟩ | ⟨h9, -⟩ | ⟨h9, -⟩ <;> first | (cases h9; done) | skip
      exact Or.inr (Or.inr (Or.inl ⟨rfl, r⟩))
  · rename_i i z
    cases hc : Nat.ble i 15 with
    | false => rw [hc] at h; cases h
    | true =>
      rw [hc, cond_true] at h
      have h1 := blm hc
      have e : c = 4294967313 + i := (Option.some.inj h).symm
      rw [dec_big (by omega), show Nat.sub c 4294967296 = i + 17 by show c - 4294967296 = i + 17; omega]
      refine ⟨by omega, ?_⟩
      unfold decS
      have e1 : Nat.ble (i + 17) 16 = false := by
        cases q : Nat.ble (i + 17) 16 with
        | false => rfl
        | true => have := blm q; omega
      rw [show Nat.beq (i + 17) 0 = false from rfl, cond_false, e1, cond_false, ble_iff.mpr (show i + 17 ≤ 32 by omega), cond_true]
      rcases r with ⟨h9, -⟩ | ⟨h9, -⟩ | ⟨h9, -⟩ | ⟨h9, -⟩ | ⟨-, r⟩ | ⟨h9, -⟩ | ⟨h9, -⟩ | ⟨h9, -⟩ <;> first | (cases h9; done) | skip
      exact Or.inr (Or.inr (Or.inr (Or.inr (Or.inl ⟨rfl, r⟩))))
  · rename_i lo hi
    cases hc : (eqB lo (-127) && eqB hi 127) with
    | false =>
      rw [hc, cond_false] at h
      have e : c = 4294967296 := (Option.some.inj h).symm
      subst e
      refine ⟨by decide, ?_⟩
      obtain ⟨x, rfl⟩ := VR.int rfl r
      exact VR.any ρ x
    | true =>
      rw [hc, cond_true] at h
      have e : c = 4294967329 := (Option.some.inj h).symm
      subst e
      refine ⟨by decide, ?_⟩
      rw [Bool.and_eq_true, eqB_iff, eqB_iff] at hc
      obtain ⟨rfl, rfl⟩ := hc
      exact r
  · cases h
/-- what is still to be done behind a method's end -/
def KK (Q : Option MV → MM → Prop) : List (Nat × Nat × List MV × List MV) → Nat → Nat → Option MV → MM → Prop
  | [], _, _, r, M => Q r M
  | (k, pc, ls, st) :: fs, d, y, r, M => (mret y = none → r = none) ∧ Wm d k pc ls (r.toList ++ st) M (KK Q fs (d + 1) k)
def QF (r : Option MV) (M2 : MM) : Prop := r = some (vi 1) ∧ M2.1 ≤ 600001 ∧ M2.2.1 ≤ 7302250
def FRs (ρ : Nat → Int) : List FR → List (Nat × Nat × List MV × List MV) → Prop
  | [], [] => True
  | (k, cc, c, ls, st) :: a, (k2, pc, ls2, st2) :: b => k2 = k ∧ k < nT ∧ cc = ops k ∧ (∃ n e r, c = (ops k).drop n ∧ c = e :: r ∧ pc = e.1) ∧ VRs ρ ls ls2 ∧ VRs ρ st st2 ∧ FRs ρ a b
  | _, _ => False
def SemAt (D k pc : Nat) (ls st : List VV) (fs : List FR) (T : HT) (s u : Nat) (C : CT) : Prop :=
  ∀ (ρ : Nat → Int) (ls2 st2 : List MV) (fs2 : List (Nat × Nat × List MV × List MV)) (M : MM), BS ρ C → VRs ρ ls ls2 → VRs ρ st st2 → FRs ρ fs fs2 → HR ρ T s u M → Wm D k pc ls2 st2 M (KK QF fs2 (D + 1) k)
def GOK (go : GO) : Prop := ∀ (D k n : Nat) (ls st : List VV) (fs : List FR) (T : HT) (s u : Nat) (C : CT), k < nT → go D k (ops k) ((ops k).drop n) ls st fs T s u C = true → ∃ e r, (ops k).drop n = e :: r ∧ SemAt D k e.1 ls st fs T s u C
/-- what each row of the table must be -/
noncomputable def inB (n : Int) : Bool := not (ltB n (-2147483648)) && ltB n 2147483648
noncomputable def tgB (pc : Nat) (off : Int) (l : List OE) : Bool := match l with
  | [] => false
  | e :: _ => decide ((pc : Int) + off = (e.1 : Int))
noncomputable def rowA (k pc : Nat) (i : Instr) (len a1 a2 a3 : Nat) (cc : List OE) : Bool := match i with
  | .iconst n => Nat.beq len 1 && inB n
  | .bipush n => Nat.beq len 2 && (inB n && decide ((Int8.ofInt n).toInt32 = Int32.ofInt n))
  | .sipush n => Nat.beq len 3 && (inB n && decide ((Int16.ofInt n).toInt32 = Int32.ofInt n))
  | .ldc idx => Nat.beq len 2 && (decide (cst (mcls k) idx = some (eInt (pc, i, len, a1, a2, a3))) && inB (eInt (pc, i, len, a1, a2, a3)))
  | .ldc_w idx => Nat.beq len 3 && (decide (cst (mcls k) idx = some (eInt (pc, i, len, a1, a2, a3))) && inB (eInt (pc, i, len, a1, a2, a3)))
  | .ldc2_w idx => Nat.beq len 3 && (decide (csl (mcls k) idx = some (eInt (pc, i, len, a1, a2, a3))) && (not (ltB (eInt (pc, i, len, a1, a2, a3)) (-9223372036854775808)) && ltB (eInt (pc, i, len, a1, a2, a3)) 9223372036854775808))
  | .iload j => Nat.beq len 2 && Nat.beq j a1
  | .lload j => Nat.beq len 2 && Nat.beq j a1
  | .aload j => Nat.beq len 2 && Nat.beq j a1
  | .istore j => Nat.beq len 2 && (Nat.beq j a1 && macB k pc a2)
  | .lstore j => Nat.beq len 2 && Nat.beq j a1
  | .astore j => Nat.beq len 2 && (Nat.beq j a1 && macB k pc a2)
  | .iload_n j => Nat.beq len 1 && Nat.beq j.1 a1
  | .lload_n j => Nat.beq len 1 && Nat.beq j.1 a1
  | .aload_n j => Nat.beq len 1 && Nat.beq j.1 a1
  | .istore_n j => Nat.beq len 1 && (Nat.beq j.1 a1 && macB k pc a2)
  | .lstore_n j => Nat.beq len 1 && Nat.beq j.1 a1
  | .astore_n j => Nat.beq len 1 && (Nat.beq j.1 a1 && macB k pc a2)
  | .iinc j _ => Nat.beq len 3 && Nat.beq j a1
  | .if_icmp _ off => Nat.beq len 3 && tgB pc off (dropN a1 cc)
  | .ifCond _ off => Nat.beq len 3 && tgB pc off (dropN a1 cc)
  | .goto off => Nat.beq len 3 && tgB pc off (dropN a1 cc)
  | .ifnull off => Nat.beq len 3 && tgB pc off (dropN a1 cc)
  | .ifnonnull off => Nat.beq len 3 && tgB pc off (dropN a1 cc)
  | .tableswitch _ _ _ _ => true
  | .getfield idx => Nat.beq len 3 && (decide (pool (mcls k) idx = some (a1, a2, a3)) && (Nat.ble a3 63 && (Nat.ble (Nat.succ a2) 20 && (Nat.ble 1 a1 && Nat.ble a1 3))))
  | .putfield idx => Nat.beq len 3 && (decide (pool (mcls k) idx = some (a1, a2, a3)) && (Nat.ble a3 63 && (Nat.ble (Nat.succ a2) 20 && (decide (fn a2 a3 = false) || decide ((mname k).name = "<init>" ∧ mcls k = a2)))))
  | .newarray t => Nat.beq len 2 && decide (t = .int ∨ t = .boolean)
  | .anewarray idx => Nat.beq len 3 && decide (pool (mcls k) idx = some (5, 10, 3))
  | .new idx => Nat.beq len 3 && (decide (pool (mcls k) idx = some (5, a2, a3)) && Nat.ble (Nat.succ a2) 20)
  | .invokevirtual idx => Nat.beq len 3 && (decide (pool (mcls k) idx = some (4, a2, a3)) && (Nat.ble (Nat.succ a2) nT && (decide (mstat a2 = false) && decide (((mname a2).name == "<init>") = false))))
  | .invokestatic idx => Nat.beq len 3 && (decide (pool (mcls k) idx = some (a1, a2, a3)) && cond (Nat.beq a1 4) (Nat.ble (Nat.succ a2) nT && decide (mstat a2 = true)) (Nat.beq a2 0 && Nat.beq a3 0))
  | .invokespecial idx => Nat.beq len 3 && (decide (pool (mcls k) idx = some (a1, a2, a3)) && cond (Nat.beq a1 7) (Nat.beq a2 0 && Nat.beq a3 0) (Nat.beq a1 4 && (Nat.ble (Nat.succ a2) nT && (decide (mstat a2 = false) && (decide (((mname a2).name == "<init>") = true) && decide (mret a2 = none))))))
  | .ireturn => Nat.beq len 1 && (Nat.beq a1 1 && decide (mret k = some .int) || Nat.beq a1 2 && decide (mret k = some .boolean))
  | .lreturn => Nat.beq len 1 && decide (mret k = some .long)
  | .return_ => Nat.beq len 1 && decide (mret k = none)
  | _ => Nat.beq len 1
def isNop (i : Instr) : Bool := match i with
  | .nop => true
  | _ => false
noncomputable def rowB (k : Nat) (e : OE) (rest cc : List OE) : Bool := isNop e.2.1 || decide (decode (mcode k) e.1 = .ok (e.2.1, e.2.2.1)) && ((match rest with
  | [] => true
  | e2 :: _ => Nat.beq e2.1 (e.1 + e.2.2.1)) && rowA k e.1 e.2.1 e.2.2.1 e.2.2.2.1 e.2.2.2.2.1 e.2.2.2.2.2 cc)
/-- the first n rows -/
noncomputable def chkD (k : Nat) (cc : List OE) : Nat → List OE → Bool
  | 0, _ => true
  | _ + 1, [] => true
  | n + 1, e :: r => rowB k e r cc && chkD k cc n r
noncomputable def chkL (k : Nat) (cc : List OE) : List OE → Bool
  | [] => true
  | e :: r => rowB k e r cc && chkL k cc r
noncomputable def ckT (k : Nat) : Bool := match bget 9 mtT k with
  | some (l, ml, c) => chkL k l l && (Nat.beq ml (mmaxl k) && (Nat.beq c (mcls k) && (match l with
    | e :: _ => Nat.beq e.1 0
    | [] => true)))
  | none => true
theorem chkL_split {k : Nat} {cc : List OE} : ∀ (n : Nat) (l : List OE), chkD k cc n l = true → chkL k cc (l.drop n) = true → chkL k cc l = true
  | 0, l, _, h => h
  | n + 1, [], _, _ => rfl
  | n + 1, e :: r, h, h2 => by
    unfold chkD at h
    rw [Bool.and_eq_true] at h
    show (rowB k e r cc && chkL k cc r) = true
    rw [h.1, chkL_split n r h.2 h2]
    rfl
