/-! the evaluator tells the truth: each instruction -/
theorem inB_ok {n : Int} (h : inB n = true) : inI n := by
  unfold inB at h
  rw [Bool.and_eq_true, Bool.not_eq_true', ltB_f, ltB_iff] at h
  unfold inI
  omega
def gM (t : Nat) (m : MV) : Prop := (t = 0 ∧ ∃ x, m = vi x) ∨ (t = 1 ∧ ∃ x, m = vl x) ∨ (t = 2 ∧ ∃ a, m = vr a)
theorem gM_of {ρ : Nat → Int} {t : Nat} {v : VV} {m : MV} (h1 : ty v = t) (h2 : v ≠ cN) (h : VR ρ v m) : gM t m := by
  subst h1
  rcases h.ty3 with h4 | h4 | h4
  · exact Or.inl ⟨h4, VR.int h4 h⟩
  · exact Or.inr (Or.inl ⟨h4, VR.lng h4 h⟩)
  · obtain ⟨q, rfl, rfl⟩ := VR.plc h4 h
    match q, h2 with
    | none, h2 => exact absurd rfl h2
    | some a, _ => exact Or.inr (Or.inr ⟨rfl, a, rfl⟩)
section
variable {go : GO} {k n pc len a1 a2 a3 : Nat} {r : List OE} {D : Nat} {ls st : List VV} {fs : List FR} {T : HT} {s u : Nat} {C : CT} {i : Instr}
theorem o_push {v : VV} {m : MV} (S : STP go k n (pc, i, len, a1, a2, a3) r) (hv : ∀ ρ, VR ρ v m) (row : ∀ {ls t : List MV} {M : MM} {Q : Option MV → MM → Prop}, Wm D k (pc + len) ls (m :: t) M Q → Wm D k pc ls t M Q) (h : go D k (ops k) r ls (v :: st) fs T s u C = true) : SemAt D k pc ls st fs T s u C :=
  fun ρ ls2 st2 fs2 M hC h1 h2 h3 h4 => row (S.next h ρ ls2 (m :: st2) fs2 M hC h1 ⟨hv ρ, h2⟩ h3 h4)
theorem o_load {t : Nat} (S : STP go k n (pc, i, len, a1, a2, a3) r) (row : ∀ (m : MV) {ls t2 : List MV} {M : MM} {Q : Option MV → MM → Prop}, gM t m → ls[a1]? = some m → Wm D k (pc + len) ls (m :: t2) M Q → Wm D k pc ls t2 M Q) (h : x_load t go (pc, i, len, a1, a2, a3) D k (ops k) r ls st fs T s u C = true) : SemAt D k pc ls st fs T s u C := by
  intro ρ ls2 st2 fs2 M hC h1 h2 h3 h4
  obtain ⟨h5, h6, h7⟩ := fL_ok (ρ := ρ) (show fL t (lget a1 ls) (fun v => go D k (ops k) r ls (v :: st) fs T s u C) = true from h)
  rcases h1.get a1 with ⟨m, h8, h9⟩ | ⟨-, h9⟩
  · exact row m (gM_of h6 h7 h9) h8 (S.next h5 ρ ls2 (m :: st2) fs2 M hC h1 ⟨h9, h2⟩ h3 h4)
  · exact absurd h9 h7
theorem o_store {t : Nat} (S : STP go k n (pc, i, len, a1, a2, a3) r) (row : ∀ (m : MV) {ls t2 : List MV} {M : MM} {Q : Option MV → MM → Prop}, gM t m → a1 < ls.length → Wm D k (pc + len) (st1 ls a1 m) t2 M Q → Wm D k pc ls (m :: t2) M Q) (h : x_store t go (pc, i, len, a1, a2, a3) D k (ops k) r ls st fs T s u C = true) (hmac : a2 ≠ 0 → x_mac go (pc, i, len, a1, a2, a3) D k (ops k) r ls st fs T s u C = true → SemAt D k pc ls st fs T s u C) : SemAt D k pc ls st fs T s u C := by
  unfold x_store at h
  cases h02 : Nat.beq a2 0 with
  | false =>
    rw [show Nat.beq (pc, i, len, a1, a2, a3).2.2.2.2.1 0 = false from h02, cond_false] at h
    exact hmac (fun q => by rw [beq_iff.mpr q] at h02; cases h02) h
  | true =>
  rw [show Nat.beq (pc, i, len, a1, a2, a3).2.2.2.2.1 0 = true from h02, cond_true] at h
  intro ρ ls2 st2 fs2 M hC h1 h2 h3 h4
  match st, h, h2 with
  | [], h, _ => cases h
  | v :: t0, h, h2 =>
    obtain ⟨m, t2, rfl, h5, h6⟩ := h2.cons
    obtain ⟨h7, h8, h9⟩ := fL_ok (ρ := ρ) (show fL t v (fun v => klK a1 ls (fun l1 => lsetK a1 l1 v (fun l2 => go D k (ops k) r l2 t0 fs T s u C))) = true from h)
    obtain ⟨l1, q1, q2⟩ := klK_ok h7 h1
    obtain ⟨q3, q4⟩ := lsetK_eq _ _ _ _ q2
    have hl : (kl ls2 a1).length = ls2.length := by
      unfold kl
      split
      · exact List.length_set
      · rfl
    exact row m (gM_of h8 h9 h5) (by rw [← hl, ← q1.len]; exact q3) (S.next q4 ρ _ t2 fs2 M hC (q1.set a1 h5) h6 h3 h4)
theorem o_lstore (S : STP go k n (pc, i, len, a1, a2, a3) r) (row : ∀ (x : Int) {ls t2 : List MV} {M : MM} {Q : Option MV → MM → Prop}, a1 + 1 < ls.length → Wm D k (pc + len) (st2 ls a1 (vl x)) t2 M Q → Wm D k pc ls (vl x :: t2) M Q) (h : x_lstore go (pc, i, len, a1, a2, a3) D k (ops k) r ls st fs T s u C = true) : SemAt D k pc ls st fs T s u C := by
  intro ρ ls2 st2 fs2 M hC h1 h2 h3 h4
  match st, h, h2 with
  | [], h, _ => cases h
  | v :: t0, h, h2 =>
    obtain ⟨m, t2, rfl, h5, h6⟩ := h2.cons
    obtain ⟨h7, h8, h9⟩ := fL_ok (ρ := ρ) (show fL 1 v (fun v => klK a1 ls (fun l1 => lsetK a1 l1 v (fun l2 => lsetK (a1 + 1) l2 cN (fun l3 => go D k (ops k) r l3 t0 fs T s u C)))) = true from h)
    obtain ⟨x, rfl⟩ := VR.lng h8 h5
    obtain ⟨l1, q1, q2⟩ := klK_ok h7 h1
    obtain ⟨q3, q4⟩ := lsetK_eq _ _ _ _ q2
    obtain ⟨q5, q6⟩ := lsetK_eq _ _ _ _ q4
    have hl : (kl ls2 a1).length = ls2.length := by
      unfold kl
      split
      · exact List.length_set
      · rfl
    rw [List.length_set] at q5
    exact row x (by rw [← hl, ← q1.len]; exact q5) (S.next q6 ρ _ t2 fs2 M hC ((q1.set a1 h5).set (a1 + 1) rfl) h6 h3 h4)
theorem un2_ok {ρ : Nat → Int} {f : Int → Int} {x v : VV} {m : MV} (h : un2 f x = some v) (hx : VR ρ x m) : ∃ a, m = vi a ∧ VR ρ v (vi (f a)) := by
  unfold un2 at h
  split at h
  · rename_i a
    cases h
    exact ⟨a, hx, rfl⟩
  · cases hc : Nat.beq (ty x) 0 with
    | false => rw [hc] at h; cases h
    | true =>
      rw [hc] at h
      cases h
      obtain ⟨a, rfl⟩ := VR.int (beq_iff.mp hc) hx
      exact ⟨a, rfl, VR.any ρ _⟩
theorem bin2_ok {ρ : Nat → Int} {f : Int → Int → Int} {y x v : VV} {my mx : MV} (h : bin2 f y x = some v) (hy : VR ρ y my) (hx : VR ρ x mx) : ∃ a b, my = vi b ∧ mx = vi a ∧ VR ρ v (vi (f a b)) := by
  unfold bin2 at h
  split at h
  · rename_i b a
    cases h
    exact ⟨a, b, hy, hx, rfl⟩
  · cases hc : Nat.beq (ty x) 0 with
    | false => rw [hc] at h; cases h
    | true =>
      cases hd : Nat.beq (ty y) 0 with
      | false => rw [hc, hd] at h; cases h
      | true =>
        rw [hc, hd] at h
        cases h
        obtain ⟨a, rfl⟩ := VR.int (beq_iff.mp hc) hx
        obtain ⟨b, rfl⟩ := VR.int (beq_iff.mp hd) hy
        exact ⟨a, b, rfl, rfl, VR.any ρ _⟩
theorem bin2z_ok {ρ : Nat → Int} {f : Int → Int → Int} {y x v : VV} {my mx : MV} (h : bin2z f y x = some v) (hy : VR ρ y my) (hx : VR ρ x mx) : ∃ a b, my = vi b ∧ mx = vi a ∧ b ≠ 0 ∧ VR ρ v (vi (f a b)) := by
  unfold bin2z at h
  split at h
  · rename_i b a
    cases hc : eqB b 0 with
    | true => rw [hc] at h; cases h
    | false =>
      rw [hc] at h
      cases h
      exact ⟨a, b, hy, hx, eqB_f.mp hc, rfl⟩
  · rename_i b _
    cases hc : eqB b 0 with
    | true => rw [hc] at h; cases h
    | false =>
      cases hd : Nat.beq (ty x) 0 with
      | false => rw [hc, hd] at h; cases h
      | true =>
        rw [hc, hd] at h
        cases h
        obtain ⟨a, rfl⟩ := VR.int (beq_iff.mp hd) hx
        exact ⟨a, b, hy, rfl, eqB_f.mp hc, VR.any ρ _⟩
  · cases h
theorem and2_ok {ρ : Nat → Int} {C : CT} (hC : BS ρ C) {y x v : VV} {my mx : MV} (h : and2 y x = some v) (hy : VR ρ y my) (hx : VR ρ x mx) : ∃ a b, my = vi b ∧ mx = vi a ∧ VR ρ v (vi (aNd a b)) := by
  unfold and2 at h
  split at h
  · rename_i b a
    cases h
    exact ⟨a, b, hy, hx, rfl⟩
  · rename_i b i z
    rcases hx with ⟨h9, -⟩ | ⟨h9, -⟩ | ⟨-, hx⟩ | ⟨h9, -⟩ | ⟨h9, -⟩ | ⟨h9, -⟩ | ⟨h9, -⟩ | ⟨h9, -⟩ <;> first | (cases h9; done) | skip
    refine ⟨_, b, hy, hx, ?_⟩
    cases hc : (eqB b 63 && eqB i 0) with
    | false => rw [hc] at h; cases h; exact VR.any ρ _
    | true =>
      rw [hc] at h
      cases h
      rw [Bool.and_eq_true, eqB_iff, eqB_iff] at hc
      obtain ⟨rfl, rfl⟩ := hc
      exact Or.inr (Or.inr (Or.inl ⟨rfl, congrArg vi hC.1.1.symm⟩))
  · cases hc : Nat.beq (ty x) 0 with
    | false => rw [hc] at h; cases h
    | true =>
      cases hd : Nat.beq (ty y) 0 with
      | false => rw [hc, hd] at h; cases h
      | true =>
        rw [hc, hd] at h
        cases h
        obtain ⟨a, rfl⟩ := VR.int (beq_iff.mp hc) hx
        obtain ⟨b, rfl⟩ := VR.int (beq_iff.mp hd) hy
        exact ⟨a, b, rfl, rfl, VR.any ρ _⟩
theorem lbin2_ok {ρ : Nat → Int} {f : Int → Int → Int} {y x v : VV} {my mx : MV} (h : lbin2 f y x = some v) (hy : VR ρ y my) (hx : VR ρ x mx) : ∃ a b, my = vl b ∧ mx = vl a ∧ VR ρ v (vl (f a b)) := by
  unfold lbin2 at h
  split at h
  · rename_i b a
    cases h
    exact ⟨a, b, hy, hx, rfl⟩
  · cases h
theorem lbin2z_ok {ρ : Nat → Int} {f : Int → Int → Int} {y x v : VV} {my mx : MV} (h : lbin2z f y x = some v) (hy : VR ρ y my) (hx : VR ρ x mx) : ∃ a b, my = vl b ∧ mx = vl a ∧ b ≠ 0 ∧ VR ρ v (vl (f a b)) := by
  unfold lbin2z at h
  split at h
  · rename_i b a
    cases hc : eqB b 0 with
    | true => rw [hc] at h; cases h
    | false => rw [hc] at h; cases h; exact ⟨a, b, hy, hx, eqB_f.mp hc, rfl⟩
  · cases h
theorem lmul2_ok {ρ : Nat → Int} {y x v : VV} {my mx : MV} (h : lmul2 y x = some v) (hy : VR ρ y my) (hx : VR ρ x mx) : ∃ a b, my = vl b ∧ mx = vl a ∧ VR ρ v (vl (wL (a * b))) := by
  unfold lmul2 at h
  split at h
  · rename_i b a
    cases h
    exact ⟨a, b, hy, hx, rfl⟩
  · rename_i z1 z2 a
    obtain ⟨b, rfl⟩ := VR.lng (show ty (Sum.inr (3, z1, z2)) = 1 from rfl) hy
    cases hc : eqB a 0 with
    | false => rw [hc] at h; cases h
    | true =>
      rw [hc] at h
      cases h
      rw [eqB_iff] at hc
      subst hc
      refine ⟨0, b, rfl, hx, ?_⟩
      rw [Int.zero_mul]
      rfl
  · cases h
theorem VR.t3 {ρ : Nat → Int} {i z : Int} {m : MV} (h : VR ρ (Sum.inr (3, i, z)) m) : m = vl (ρ i.toNat) := by
  rcases h with ⟨h9, -⟩ | ⟨h9, -⟩ | ⟨h9, -⟩ | ⟨-, h⟩ | ⟨h9, -⟩ | ⟨h9, -⟩ | ⟨h9, -⟩ | ⟨h9, -⟩ <;> first | (cases h9; done) | exact h
theorem VR.t6 {ρ : Nat → Int} {i z : Int} {m : MV} (h : VR ρ (Sum.inr (6, i, z)) m) : m = vl (lShl (ρ i.toNat) 32) := by
  rcases h with ⟨h9, -⟩ | ⟨h9, -⟩ | ⟨h9, -⟩ | ⟨h9, -⟩ | ⟨h9, -⟩ | ⟨h9, -⟩ | ⟨-, h⟩ | ⟨h9, -⟩ <;> first | (cases h9; done) | exact h
theorem VR.t7 {ρ : Nat → Int} {i z : Int} {m : MV} (h : VR ρ (Sum.inr (7, i, z)) m) : m = vl (lAnd (ρ i.toNat) 4294967295) := by
  rcases h with ⟨h9, -⟩ | ⟨h9, -⟩ | ⟨h9, -⟩ | ⟨h9, -⟩ | ⟨h9, -⟩ | ⟨h9, -⟩ | ⟨h9, -⟩ | ⟨-, h⟩ <;> first | (cases h9; done) | exact h
theorem land2_ok {ρ : Nat → Int} {y x v : VV} {my mx : MV} (h : land2 y x = some v) (hy : VR ρ y my) (hx : VR ρ x mx) : ∃ a b, my = vl b ∧ mx = vl a ∧ VR ρ v (vl (lAnd a b)) := by
  unfold land2 at h
  split at h
  · rename_i b a
    cases h
    exact ⟨a, b, hy, hx, rfl⟩
  · rename_i b i z
    cases hc : eqB b 4294967295 with
    | false => rw [hc] at h; cases h
    | true =>
      rw [hc] at h
      cases h
      rw [eqB_iff] at hc
      subst hc
      exact ⟨_, _, hy, hx.t3, Or.inr (Or.inr (Or.inr (Or.inr (Or.inr (Or.inr (Or.inr ⟨rfl, rfl⟩))))))⟩
  · cases h
theorem lor2_ok {ρ : Nat → Int} {C : CT} (hC : BS ρ C) {y x v : VV} {my mx : MV} (h : lor2 y x = some v) (hy : VR ρ y my) (hx : VR ρ x mx) : ∃ a b, my = vl b ∧ mx = vl a ∧ VR ρ v (vl (lOr a b)) := by
  unfold lor2 at h
  split at h
  · rename_i b a
    cases h
    exact ⟨a, b, hy, hx, rfl⟩
  · rename_i j z i w
    cases hc : (eqB i 2 && eqB j 3) with
    | false => rw [hc] at h; cases h
    | true =>
      rw [hc] at h
      cases h
      rw [Bool.and_eq_true, eqB_iff, eqB_iff] at hc
      obtain ⟨rfl, rfl⟩ := hc
      exact ⟨_, _, hy.t7, hx.t6, Or.inr (Or.inr (Or.inr (Or.inl ⟨rfl, congrArg vl hC.1.2.symm⟩)))⟩
  · cases h
theorem lshl2_ok {ρ : Nat → Int} {y x v : VV} {my mx : MV} (h : lshl2 y x = some v) (hy : VR ρ y my) (hx : VR ρ x mx) : ∃ a b, my = vi b ∧ mx = vl a ∧ VR ρ v (vl (lShl a b)) := by
  unfold lshl2 at h
  split at h
  · rename_i b a
    cases h
    exact ⟨a, b, hy, hx, rfl⟩
  · rename_i b i z
    cases hc : eqB b 32 with
    | false => rw [hc] at h; cases h
    | true =>
      rw [hc] at h
      cases h
      rw [eqB_iff] at hc
      subst hc
      exact ⟨_, _, hy, hx.t3, Or.inr (Or.inr (Or.inr (Or.inr (Or.inr (Or.inr (Or.inl ⟨rfl, rfl⟩))))))⟩
  · cases h
theorem lcm2_ok {ρ : Nat → Int} {C : CT} (hC : BS ρ C) {y x v : VV} {my mx : MV} (h : lcm2 C y x = some v) (hy : VR ρ y my) (hx : VR ρ x mx) : ∃ a b, my = vl b ∧ mx = vl a ∧ VR ρ v (vi (lCm a b)) := by
  unfold lcm2 at h
  split at h
  · rename_i b a
    cases h
    exact ⟨a, b, hy, hx, rfl⟩
  · rename_i b i z
    refine ⟨_, _, hy, hx.t3, ?_⟩
    have hb := hC.2 i.toNat
    cases h
    unfold lCm
    cases q1 : ltB b (bnd C i.toNat).1 with
    | true => rw [ltB_iff] at q1; rw [cond_true, if_pos (by omega)]; rfl
    | false =>
      rw [cond_false]
      cases q2 : ltB (bnd C i.toNat).2 b with
      | true => rw [ltB_iff] at q2; rw [cond_true, if_neg (by omega), if_neg (by omega)]; rfl
      | false =>
        rw [cond_false]
        cases q3 : ltB (bnd C i.toNat).1 b with
        | true =>
          rw [cond_true]
          refine Or.inr (Or.inr (Or.inr (Or.inr (Or.inr (Or.inl ⟨rfl, _, rfl, ?_, ?_⟩))))) <;> split <;> (try split) <;> omega
        | false =>
          rw [cond_false]
          rw [ltB_f] at q3
          refine Or.inr (Or.inr (Or.inr (Or.inr (Or.inr (Or.inl ⟨rfl, _, rfl, ?_, ?_⟩))))) <;> split <;> (try split) <;> omega
  · cases h
theorem lun2_ok {ρ : Nat → Int} {f : Int → Int} {x v : VV} {m : MV} (h : lun2 f x = some v) (hx : VR ρ x m) : ∃ a, m = vl a ∧ VR ρ v (vl (f a)) := by
  unfold lun2 at h
  split at h
  · rename_i a
    cases h
    exact ⟨a, hx, rfl⟩
  · cases h
theorem i2l2_ok {ρ : Nat → Int} {x v : VV} {m : MV} (h : i2l2 x = some v) (hx : VR ρ x m) : ∃ a, m = vi a ∧ VR ρ v (vl a) := by
  unfold i2l2 at h
  split at h
  · rename_i a
    cases h
    exact ⟨a, hx, rfl⟩
  · rename_i i z
    cases h
    rcases hx with ⟨h9, -⟩ | ⟨h9, -⟩ | ⟨-, hx⟩ | ⟨h9, -⟩ | ⟨h9, -⟩ | ⟨h9, -⟩ | ⟨h9, -⟩ | ⟨h9, -⟩ <;> first | (cases h9; done) | skip
    exact ⟨_, hx, Or.inr (Or.inr (Or.inr (Or.inl ⟨rfl, rfl⟩)))⟩
  · rename_i t z1 z2 _
    cases hc : Nat.beq (tyT t) 0 with
    | false => rw [hc] at h; cases h
    | true =>
      rw [hc] at h
      cases h
      obtain ⟨a, rfl⟩ := VR.int (show ty (Sum.inr (t, z1, z2)) = 0 from beq_iff.mp hc) hx
      exact ⟨a, rfl, Or.inr (Or.inl ⟨rfl, a, rfl⟩)⟩
  · cases h
theorem l2i2_ok {ρ : Nat → Int} {x v : VV} {m : MV} (h : l2i2 x = some v) (hx : VR ρ x m) : ∃ a, m = vl a ∧ VR ρ v (vi (wI a)) := by
  unfold l2i2 at h
  split at h
  · rename_i a
    cases h
    exact ⟨a, hx, rfl⟩
  · cases h
theorem o_bin {g : VV → VV → Option VV} (S : STP go k n (pc, i, len, a1, a2, a3) r) (row : ∀ (ρ : Nat → Int) (y x v : VV) (my mx : MV), BS ρ C → g y x = some v → VR ρ y my → VR ρ x mx → ∃ mv, VR ρ v mv ∧ ∀ {ls t : List MV} {M : MM} {Q : Option MV → MM → Prop}, Wm D k (pc + len) ls (mv :: t) M Q → Wm D k pc ls (my :: mx :: t) M Q) (h : x_bin g go (pc, i, len, a1, a2, a3) D k (ops k) r ls st fs T s u C = true) : SemAt D k pc ls st fs T s u C := by
  intro ρ ls2 st2 fs2 M hC h1 h2 h3 h4
  match st, h, h2 with
  | [], h, _ => cases h
  | [_], h, _ => cases h
  | y :: x :: t0, h, h2 =>
    obtain ⟨my, t1, rfl, h5, h6⟩ := h2.cons
    obtain ⟨mx, t2, rfl, h7, h8⟩ := h6.cons
    obtain ⟨v, q1, q2⟩ := oV_eq (show oV (g y x) (fun v => go D k (ops k) r ls (v :: t0) fs T s u C) = true from h)
    obtain ⟨mv, q3, q4⟩ := row ρ y x v my mx hC q1 h5 h7
    exact q4 (S.next q2 ρ ls2 (mv :: t2) fs2 M hC h1 ⟨q3, h8⟩ h3 h4)
theorem o_lcmp (S : STP go k n (pc, i, len, a1, a2, a3) r) (h : x_lcmp go (pc, i, len, a1, a2, a3) D k (ops k) r ls st fs T s u C = true) : x_bin (lcm2 C) go (pc, i, len, a1, a2, a3) D k (ops k) r ls st fs T s u C = true := h
theorem o_un {g : VV → Option VV} (S : STP go k n (pc, i, len, a1, a2, a3) r) (row : ∀ (ρ : Nat → Int) (x v : VV) (mx : MV), g x = some v → VR ρ x mx → ∃ mv, VR ρ v mv ∧ ∀ {ls t : List MV} {M : MM} {Q : Option MV → MM → Prop}, Wm D k (pc + len) ls (mv :: t) M Q → Wm D k pc ls (mx :: t) M Q) (h : x_un g go (pc, i, len, a1, a2, a3) D k (ops k) r ls st fs T s u C = true) : SemAt D k pc ls st fs T s u C := by
  intro ρ ls2 st2 fs2 M hC h1 h2 h3 h4
  match st, h, h2 with
  | [], h, _ => cases h
  | x :: t0, h, h2 =>
    obtain ⟨mx, t2, rfl, h7, h8⟩ := h2.cons
    obtain ⟨v, q1, q2⟩ := oV_eq (show oV (g x) (fun v => go D k (ops k) r ls (v :: t0) fs T s u C) = true from h)
    obtain ⟨mv, q3, q4⟩ := row ρ x v mx q1 h7
    exact q4 (S.next q2 ρ ls2 (mv :: t2) fs2 M hC h1 ⟨q3, h8⟩ h3 h4)
end
