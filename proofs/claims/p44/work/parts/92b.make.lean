/-! MAKING: objects under construction have no type yet -/
def gup (Γ : Nat → Nat) (a τ : Nat) : Nat → Nat := fun b => if b = a then τ else Γ b
theorem gup_at {Γ : Nat → Nat} {a τ : Nat} : gup Γ a τ a = τ := if_pos rfl
theorem gup_ne {Γ : Nat → Nat} {a τ b : Nat} (h : b ≠ a) : gup Γ a τ b = Γ b := if_neg h
theorem HTy_lt {Γ : Nat → Nat} {M : MM} (hT : HTy Yt Γ M) {a : Nat} (h : Γ a ≠ 0) : a < M.1 := (hT a h).1
theorem HTy_un {Γ : Nat → Nat} {M : MM} (hT : HTy Yt Γ M) {a : Nat} (h : M.1 ≤ a) : Γ a = 0 := by
  by_cases h0 : Γ a = 0
  · exact h0
  · have := (hT a h0).1
    omega
theorem HTy_new {Γ : Nat → Nat} {s u : Nat} {K : Nat → Nat × Nat} {R : Nat → Nat → Option Nat} {I : Nat → Nat → Int} (hT : HTy Yt Γ (s, u, K, R, I)) (g n du : Nat) : HTy Yt Γ (s + 1, u + du, upk K s (g, n), upz R s none, upz I s 0) := by
  intro b hb
  obtain ⟨t1, t2, t3, t4⟩ := hT b hb
  have t1 : b < s := t1
  have hne : b ≠ s := by omega
  have e2 : ∀ j, upz R s none b j = R b j := fun j => if_neg hne
  have e3 : ∀ j, upz I s 0 b j = I b j := fun j => if_neg hne
  refine ⟨Nat.lt_succ_of_lt t1, (by have e : upk K s (g, n) b = K b := if_neg hne; show KD _ (upk K s (g, n) b); rw [e]; exact t2), fun r hr j h1 h2 => ?_, fun r hr j h1 h2 => ?_⟩
  · show _ ≤ upz I s 0 b j ∧ upz I s 0 b j ≤ _
    rw [e3]
    exact t3 r hr j h1 h2
  · show (upz R s none b j = none ∧ _) ∨ ∃ c, upz R s none b j = some c ∧ _
    rw [e2]
    exact t4 r hr j h1 h2
def zeroT (T : TYE) : Bool := (T.2.2.1.all fun r => not (ltB 0 r.2.2.1) && not (ltB r.2.2.2 0)) && T.2.2.2.all fun r => r.2.2.2
theorem HTy_arr {Γ : Nat → Nat} {s u : Nat} {K : Nat → Nat × Nat} {R : Nat → Nat → Option Nat} {I : Nat → Nat → Int} (hT : HTy Yt Γ (s, u, K, R, I)) {τ g n : Nat} (du : Nat) (hk : (Yt τ).1 = g ∧ (Yt τ).2.1 = n) (hz : zeroT (Yt τ) = true) : HTy Yt (gup Γ s τ) (s + 1, u + du, upk K s (g, n), upz R s none, upz I s 0) := by
  have hs : Γ s = 0 := HTy_un hT (Nat.le_refl _)
  obtain ⟨z1, z2⟩ := bb2 hz
  rw [List.all_eq_true] at z1 z2
  intro b hb
  by_cases hne : b = s
  · subst hne
    rw [gup_at] at hb ⊢
    refine ⟨Nat.lt_succ_self _, ?_, fun r hr j h1 h2 => ?_, fun r hr j h1 h2 => Or.inl ⟨if_pos rfl, z2 r hr⟩⟩
    · refine Or.inr ?_
      show upk K b (g, n) b = _
      rw [hk.1, hk.2]
      exact if_pos rfl
    · show _ ≤ upz I b 0 b j ∧ upz I b 0 b j ≤ _
      have e : upz I b 0 b j = 0 := if_pos rfl
      have := z1 r hr
      rw [Bool.and_eq_true, Bool.not_eq_true', Bool.not_eq_true', ltB_f, ltB_f] at this
      rw [e]
      omega
  · rw [gup_ne hne] at hb ⊢
    obtain ⟨t1, t2, t3, t4⟩ := HTy_new hT g n du b hb
    refine ⟨t1, t2, t3, fun r hr j h1 h2 => ?_⟩
    rcases t4 r hr j h1 h2 with h | ⟨c, c1, c2, c3⟩
    · exact Or.inl h
    · exact Or.inr ⟨c, c1, by rw [gup_ne (fun q => c3 (by rw [← c2, q, hs]))]; exact c2, c3⟩
theorem HTy_uR {Γ : Nat → Nat} {s u : Nat} {K : Nat → Nat × Nat} {R : Nat → Nat → Option Nat} {I : Nat → Nat → Int} (hT : HTy Yt Γ (s, u, K, R, I)) {a j : Nat} {x : Option Nat} (ha : Γ a = 0) : HTy Yt Γ (s, u, K, up R a j x, I) := by
  intro b hb
  obtain ⟨t1, t2, t3, t4⟩ := hT b hb
  refine ⟨t1, t2, t3, fun r hr i h1 h2 => ?_⟩
  have e : up R a j x b i = R b i := if_neg (fun q => hb (by rw [q.1, ha]))
  show (up R a j x b i = none ∧ _) ∨ ∃ c, up R a j x b i = some c ∧ _
  rw [e]
  exact t4 r hr i h1 h2
theorem HTy_uI {Γ : Nat → Nat} {s u : Nat} {K : Nat → Nat × Nat} {R : Nat → Nat → Option Nat} {I : Nat → Nat → Int} (hT : HTy Yt Γ (s, u, K, R, I)) {a j : Nat} {x : Int} (ha : Γ a = 0) : HTy Yt Γ (s, u, K, R, up I a j x) := by
  intro b hb
  obtain ⟨t1, t2, t3, t4⟩ := hT b hb
  refine ⟨t1, t2, fun r hr i h1 h2 => ?_, t4⟩
  have e : up I a j x b i = I b i := if_neg (fun q => hb (by rw [q.1, ha]))
  show _ ≤ up I a j x b i ∧ up I a j x b i ≤ _
  rw [e]
  exact t3 r hr i h1 h2
/-- all but a, and but cells of E, is as it was -/
def FRA (a : Nat) (E : List EF) (Γ : Nat → Nat) (M M2 : MM) : Prop := M.1 ≤ M2.1 ∧ ∀ b, b < M.1 → b ≠ a → M2.2.2.1 b = M.2.2.1 b ∧ ∀ j, (∀ e ∈ E, Γ b = e.1 → e.2.1 ≤ j → j < e.2.2 → Γ b = 0) → M2.2.2.2.2 b j = M.2.2.2.2 b j ∧ M2.2.2.2.1 b j = M.2.2.2.1 b j
def ilv (il : List (Nat × Int)) (j : Nat) : Int := match il.find? fun q => Nat.beq q.1 j with
  | some q => q.2
  | none => 0
/-- the object a of the class C is being made: its places so far (field, type, whether all its numbers are 0), its numbers -/
def MK (Γ0 : Nat → Nat) (M0 : MM) (E : List EF) (a C da ds : Nat) (fs : List (Nat × Nat × Bool)) (il : List (Nat × Int)) (Γ : Nat → Nat) (M : MM) : Prop :=
  HTy Yt Γ M ∧ Γ a = 0 ∧ a < M.1 ∧ M.2.2.1 a = (C, 0) ∧ (∀ q ∈ fs, ∃ b, M.2.2.2.1 a q.1 = some b ∧ Γ b = q.2.1 ∧ q.2.1 ≠ 0 ∧ (q.2.2 = true → ∀ i, M.2.2.2.2 b i = 0)) ∧ (∀ j, (∀ q ∈ fs, q.1 ≠ j) → M.2.2.2.1 a j = none) ∧ (∀ j, M.2.2.2.2 a j = ilv il j) ∧ FRA a E Γ0 M0 M ∧ (∀ b, b < M0.1 → b ≠ a → Γ b = Γ0 b) ∧ M.1 ≤ M0.1 + da ∧ M.2.1 ≤ M0.2.1 + ds
theorem MK_init {Γ : Nat → Nat} {M : MM} {E : List EF} {a C : Nat} (hT : HTy Yt Γ M) (h1 : Γ a = 0) (h2 : a < M.1) (h3 : M.2.2.1 a = (C, 0)) (h4 : ∀ j, M.2.2.2.1 a j = none) (h5 : ∀ j, M.2.2.2.2 a j = 0) : MK Γ M E a C 0 0 [] [] Γ M :=
  ⟨hT, h1, h2, h3, fun q hq => absurd hq List.not_mem_nil, fun j _ => h4 j, fun j => h5 j, ⟨Nat.le_refl _, fun _ _ _ => ⟨rfl, fun _ _ => ⟨rfl, rfl⟩⟩⟩, fun _ _ _ => rfl, Nat.le_refl _, Nat.le_refl _⟩
theorem allne {j : Nat} {fs : List (Nat × Nat × Bool)} (h : (fs.all fun q => not (Nat.beq q.1 j)) = true) : ∀ q ∈ fs, q.1 ≠ j := by
  intro q hq e
  rw [List.all_eq_true] at h
  have := h q hq
  rw [Bool.not_eq_true', beq_iff.mpr e] at this
  cases this
/-- a field is given a place -/
theorem MK_put {Γ0 : Nat → Nat} {M0 : MM} {E : List EF} {a C da ds : Nat} {fs : List (Nat × Nat × Bool)} {il : List (Nat × Int)} {Γ : Nat → Nat} {s u : Nat} {K : Nat → Nat × Nat} {R : Nat → Nat → Option Nat} {I : Nat → Nat → Int} (h : MK Γ0 M0 E a C da ds fs il Γ (s, u, K, R, I)) {j c τ : Nat} {z : Bool} (hj : (fs.all fun q => not (Nat.beq q.1 j)) = true) (hc : Γ c = τ) (h0 : τ ≠ 0) (hz : z = true → ∀ i, I c i = 0) : MK Γ0 M0 E a C da ds (fs ++ [(j, τ, z)]) il Γ (s, u, K, up R a j (some c), I) := by
  obtain ⟨k1, k2, k3, k4, k5, k6, k7, ⟨k8, k9⟩, k10, k11, k12⟩ := h
  have hj := allne hj
  refine ⟨HTy_uR k1 k2, k2, k3, k4, fun q hq => ?_, fun i hi => ?_, k7, ⟨k8, fun b b1 b2 => ⟨(k9 b b1 b2).1, fun i hi => ⟨((k9 b b1 b2).2 i hi).1, ?_⟩⟩⟩, k10, k11, k12⟩
  · rcases List.mem_append.mp hq with hq | hq
    · obtain ⟨b, b1, b2⟩ := k5 q hq
      refine ⟨b, ?_, b2⟩
      show up R a j (some c) a q.1 = some b
      unfold up
      rw [if_neg (fun p => hj q hq p.2)]
      exact b1
    · cases List.mem_singleton.mp hq
      exact ⟨c, if_pos ⟨rfl, rfl⟩, hc, h0, hz⟩
  · show up R a j (some c) a i = none
    unfold up
    rw [if_neg (fun p => hi (j, τ, z) (List.mem_append_right _ List.mem_cons_self) p.2.symm)]
    exact k6 i (fun q hq => hi q (List.mem_append_left _ hq))
  · show up R a j (some c) b i = _
    unfold up
    rw [if_neg (fun p => b2 p.1)]
    exact ((k9 b b1 b2).2 i hi).2
/-- a new place that isn't typed yet -/
theorem MK_new {Γ0 : Nat → Nat} {M0 : MM} {E : List EF} {a C da ds : Nat} {fs : List (Nat × Nat × Bool)} {il : List (Nat × Int)} {Γ : Nat → Nat} {s u : Nat} {K : Nat → Nat × Nat} {R : Nat → Nat → Option Nat} {I : Nat → Nat → Int} (h : MK Γ0 M0 E a C da ds fs il Γ (s, u, K, R, I)) (hM : a < M0.1) (g n du : Nat) : MK Γ0 M0 E a C (da + 1) (ds + du) fs il Γ (s + 1, u + du, upk K s (g, n), upz R s none, upz I s 0) := by
  obtain ⟨k1, k2, k3, k4, k5, k6, k7, ⟨k8, k9⟩, k10, k11, k12⟩ := h
  have k3 : a < s := k3
  have k8 : M0.1 ≤ s := k8
  have ha : a ≠ s := by omega
  refine ⟨HTy_new k1 g n du, k2, by show a < s + 1; omega, (if_neg ha : upk K s (g, n) a = K a).trans k4, fun q hq => ?_, fun i hi => (if_neg ha : upz R s none a i = R a i).trans (k6 i hi), fun i => (if_neg ha : upz I s 0 a i = I a i).trans (k7 i), ⟨by show M0.1 ≤ s + 1; omega, fun b b1 b2 => ?_⟩, k10, by show s + 1 ≤ _; have k11 : s ≤ M0.1 + da := k11; omega, by show u + du ≤ _; have k12 : u ≤ M0.2.1 + ds := k12; omega⟩
  · obtain ⟨b, b1, b2, b3, b4⟩ := k5 q hq
    have hb : b < s := HTy_lt k1 (by rw [b2]; exact b3)
    exact ⟨b, (if_neg ha : upz R s none a q.1 = R a q.1).trans b1, b2, b3, fun hz i => (if_neg (by omega) : upz I s 0 b i = I b i).trans (b4 hz i)⟩
  · have hb : b ≠ s := by omega
    exact ⟨(if_neg hb : upk K s (g, n) b = K b).trans (k9 b b1 b2).1, fun i hi => ⟨(if_neg hb : upz I s 0 b i = I b i).trans ((k9 b b1 b2).2 i hi).1, (if_neg hb : upz R s none b i = R b i).trans ((k9 b b1 b2).2 i hi).2⟩⟩
def clrF (E : List EF) (fs : List (Nat × Nat × Bool)) : List (Nat × Nat × Bool) := fs.map fun q => (q.1, q.2.1, q.2.2 && E.all fun e => not (Nat.beq e.1 q.2.1))
/-- something goes on meanwhile -/
theorem MK_go {Γ0 : Nat → Nat} {M0 : MM} {E E2 : List EF} {a C da ds da2 ds2 : Nat} {fs : List (Nat × Nat × Bool)} {il : List (Nat × Int)} {Γ Γ2 : Nat → Nat} {M M2 : MM} (h : MK Γ0 M0 E a C da ds fs il Γ M) (x : Nat) (hx : a ≠ x) (hx0 : M0.1 ≤ x) (hxΓ : Γ x = 0) (hT : HTy Yt Γ2 M2) (hF : FRA x E2 Γ M M2) (hG : ∀ b, b < M.1 → b ≠ x → Γ2 b = Γ b) (hE : efsIn E2 E = true) (h1 : M2.1 ≤ M.1 + da2) (h2 : M2.2.1 ≤ M.2.1 + ds2) : MK Γ0 M0 E a C (da + da2) (ds + ds2) (clrF E2 fs) il Γ2 M2 := by
  obtain ⟨k1, k2, k3, k4, k5, k6, k7, ⟨k8, k9⟩, k10, k11, k12⟩ := h
  obtain ⟨f1, f2⟩ := hF
  obtain ⟨g1, g2⟩ := f2 a k3 hx
  have ga : ∀ j, _ := fun j => g2 j (fun _ _ _ _ _ => k2)
  have key : ∀ q ∈ fs, ∃ b, M2.2.2.2.1 a q.1 = some b ∧ Γ2 b = q.2.1 ∧ q.2.1 ≠ 0 ∧ ((q.2.2 && E2.all fun e => not (Nat.beq e.1 q.2.1)) = true → ∀ i, M2.2.2.2.2 b i = 0) := by
    intro q hq
    obtain ⟨b, b1, b2, b3, b4⟩ := k5 q hq
    have hb : b < M.1 := HTy_lt k1 (by rw [b2]; exact b3)
    have hbx : b ≠ x := fun e => b3 (by rw [← b2, e, hxΓ])
    refine ⟨b, (ga q.1).2.trans b1, (hG b hb hbx).trans b2, b3, fun hz i => ?_⟩
    obtain ⟨z1, z2⟩ := bb2 hz
    rw [List.all_eq_true] at z2
    have := ((f2 b hb hbx).2 i (fun e he q1 _ _ => by
      have := z2 e he
      rw [Bool.not_eq_true', beq_iff.mpr (show e.1 = q.2.1 by rw [← q1, b2])] at this
      cases this)).1
    rw [this]
    exact b4 z1 i
  refine ⟨hT, (hG a k3 hx).trans k2, Nat.lt_of_lt_of_le k3 f1, g1.trans k4, fun q hq => ?_, fun j hj => (ga j).2.trans (k6 j (fun q hq => hj (q.1, q.2.1, (q.2.2 && E2.all fun e => not (Nat.beq e.1 q.2.1))) (List.mem_map.mpr ⟨q, hq, rfl⟩))), fun j => (ga j).1.trans (k7 j), ⟨Nat.le_trans k8 f1, fun b b1 b2 => ?_⟩, fun b b1 b2 => (hG b (by omega) (by omega)).trans (k10 b b1 b2), by omega, by omega⟩
  · obtain ⟨p, hp, rfl⟩ := List.mem_map.mp hq
    exact key p hp
  · obtain ⟨c1, c2⟩ := k9 b b1 b2
    obtain ⟨d1, d2⟩ := f2 b (by omega) (by omega)
    refine ⟨d1.trans c1, fun j hj => ?_⟩
    have q1 := c2 j hj
    have q2 := d2 j (fun e he h3 h4 h5 => by
      unfold efsIn at hE
      rw [List.all_eq_true] at hE
      obtain ⟨f, f1, f2, f3, f4⟩ := efIn_ok (hE e he)
      rw [k10 b b1 b2] at h3 ⊢
      exact hj f f1 (h3.trans f2.symm) (Nat.le_trans f3 h4) (Nat.lt_of_lt_of_le h5 f4))
    exact ⟨q2.1.trans q1.1, q2.2.trans q1.2⟩
theorem FRA_of {E : List EF} {Γ : Nat → Nat} {M M2 : MM} {x : Nat} (h : FRM E Γ M M2) : FRA x E Γ M M2 := ⟨h.1, fun b b1 _ => h.2 b b1⟩
def sealB (τ C : Nat) (fs : List (Nat × Nat × Bool)) (il : List (Nat × Int)) : Bool := ((Nat.beq (Yt τ).1 C && Nat.beq (Yt τ).2.1 0) && ((Yt τ).2.2.1.all fun r => Nat.beq r.2.1 (r.1 + 1) && (not (ltB (ilv il r.1) r.2.2.1) && not (ltB r.2.2.2 (ilv il r.1))))) && (Yt τ).2.2.2.all fun r => Nat.beq r.2.1 (r.1 + 1) && ((fs.any fun q => Nat.beq q.1 r.1 && Nat.beq q.2.1 r.2.2.1) || (r.2.2.2 && fs.all fun q => not (Nat.beq q.1 r.1)))
theorem MK_seal {Γ0 : Nat → Nat} {M0 : MM} {E : List EF} {a C da ds : Nat} {fs : List (Nat × Nat × Bool)} {il : List (Nat × Int)} {Γ : Nat → Nat} {M : MM} (h : MK Γ0 M0 E a C da ds fs il Γ M) {τ : Nat} (hs : sealB τ C fs il = true) : HTy Yt (gup Γ a τ) M := by
  obtain ⟨k1, k2, k3, k4, k5, k6, k7, -, -, -, -⟩ := h
  obtain ⟨s1, s2⟩ := bb2 hs
  obtain ⟨s1, s3⟩ := bb2 s1
  obtain ⟨s1, s4⟩ := bb2 s1
  rw [List.all_eq_true] at s2 s3
  intro b hb
  by_cases hne : b = a
  · subst hne
    rw [gup_at] at hb ⊢
    refine ⟨k3, Or.inr (by rw [beq_iff.mp s1, beq_iff.mp s4]; exact k4), fun r hr j h1 h2 => ?_, fun r hr j h1 h2 => ?_⟩
    · obtain ⟨e1, e2⟩ := bb2 (s3 r hr)
      have e1 := beq_iff.mp e1
      rw [Bool.and_eq_true, Bool.not_eq_true', Bool.not_eq_true', ltB_f, ltB_f] at e2
      rw [k7 j, show j = r.1 by omega]
      omega
    · obtain ⟨e1, e2⟩ := bb2 (s2 r hr)
      have e1 := beq_iff.mp e1
      rw [show j = r.1 by omega]
      rw [Bool.or_eq_true, List.any_eq_true] at e2
      rcases e2 with ⟨q, q1, q2⟩ | e2
      · obtain ⟨q2, q3⟩ := bb2 q2
        obtain ⟨c, c1, c2, c3, -⟩ := k5 q q1
        rw [beq_iff.mp q2] at c1
        rw [beq_iff.mp q3] at c2 c3
        exact Or.inr ⟨c, c1, by rw [gup_ne (fun p => c3 (by rw [← c2, p, k2]))]; exact c2, c3⟩
      · obtain ⟨e2, e3⟩ := bb2 e2
        exact Or.inl ⟨k6 r.1 (allne e3), e2⟩
  · rw [gup_ne hne] at hb ⊢
    obtain ⟨t1, t2, t3, t4⟩ := k1 b hb
    refine ⟨t1, t2, t3, fun r hr j h1 h2 => ?_⟩
    rcases t4 r hr j h1 h2 with h | ⟨c, c1, c2, c3⟩
    · exact Or.inl h
    · exact Or.inr ⟨c, c1, by rw [gup_ne (fun p => c3 (by rw [← c2, p, k2]))]; exact c2, c3⟩
/-- what a constructor without arguments leaves -/
def CTQ (τ : Nat) (E : List EF) (da ds : Nat) (z : Bool) (Γ : Nat → Nat) (M : MM) (a : Nat) (r : Option MV) (M2 : MM) : Prop := r = none ∧ ∃ Γ2, HTy Yt Γ2 M2 ∧ Γ2 a = τ ∧ FRA a E Γ M M2 ∧ (∀ b, b < M.1 → b ≠ a → Γ2 b = Γ b) ∧ M2.1 ≤ M.1 + da ∧ M2.2.1 ≤ M.2.1 + ds ∧ (z = true → ∀ j, M2.2.2.2.2 a j = 0)
def CT0 (k C τ : Nat) (E : List EF) (da ds dk : Nat) (z : Bool) : Prop := ∀ (d : Nat) (Γ : Nat → Nat) (M : MM) (a : Nat), dk ≤ d → HTy Yt Γ M → Γ a = 0 → a < M.1 → M.2.2.1 a = (C, 0) → (∀ j, M.2.2.2.1 a j = none) → (∀ j, M.2.2.2.2 a j = 0) → Rm d k [vr a] M (CTQ τ E da ds z Γ M a)
theorem MK_ret {Γ0 : Nat → Nat} {M0 : MM} {E : List EF} {a C da ds : Nat} {fs : List (Nat × Nat × Bool)} {Γ : Nat → Nat} {M : MM} {z : Bool} (h : MK Γ0 M0 E a C da ds fs [] Γ M) {τ : Nat} (hs : sealB τ C fs [] = true) : CTQ τ E da ds z Γ0 M0 a none M :=
  ⟨rfl, gup Γ a τ, MK_seal h hs, gup_at, h.2.2.2.2.2.2.2.1, fun b b1 b2 => (gup_ne b2).trans (h.2.2.2.2.2.2.2.2.1 b b1 b2), h.2.2.2.2.2.2.2.2.2.1, h.2.2.2.2.2.2.2.2.2.2, fun _ j => h.2.2.2.2.2.2.1 j⟩
def chkA (τ g n : Nat) : Bool := (Nat.beq (Yt τ).1 g && Nat.beq (Yt τ).2.1 n) && (zeroT (Yt τ) && not (Nat.beq τ 0))
section
variable {Γ0 : Nat → Nat} {M0 : MM} {E : List EF} {a C da ds : Nat} {fs : List (Nat × Nat × Bool)} {il : List (Nat × Int)} {Γ : Nat → Nat} {M : MM} {d k pc : Nat} {ls : List MV} {Q : Option MV → MM → Prop}
/-- a field is given a new row -/
theorem mk_arr (h : MK Γ0 M0 E a C da ds fs il Γ M) (hM : a < M0.1) (hl : ls[0]? = some (vr a)) {p2 idx g τ j n : Nat} {ty : Jvm.ClassFile.ArrayType} (d1 : decode (mcode k) pc = .ok (.aload_n 0, 1))
    (hpush : ∀ (s u : Nat) (K : Nat → Nat × Nat) (R : Nat → Nat → Option Nat) (I : Nat → Nat → Int) (t : List MV), Wm d k p2 ls (vi (n : Int) :: t) (s, u, K, R, I) Q → Wm d k (pc + 1) ls t (s, u, K, R, I) Q)
    (d3 : decode (mcode k) p2 = .ok (.newarray ty, 2)) (d4 : decode (mcode k) (p2 + 2) = .ok (.putfield idx, 3)) (hp : pool (mcls k) idx = some (3, C, j)) (hc : fn C j = false ∨ ((mname k).name = "<init>" ∧ mcls k = C)) (hg : (ty = .int ∧ g = 20) ∨ (ty = .boolean ∧ g = 21)) (hn : n ≤ 100000) (hτ : chkA τ g n = true) (hj : (fs.all fun q => not (Nat.beq q.1 j)) = true)
    (kk : ∀ Γ2 M2, MK Γ0 M0 E a C (da + 1) (ds + n) (fs ++ [(j, τ, true)]) il Γ2 M2 → Wm d k (p2 + 2 + 3) ls [] M2 Q) : Wm d k pc ls [] M Q := by
  obtain ⟨s, u, K, R, I⟩ := M
  obtain ⟨c1, c2⟩ := bb2 hτ
  obtain ⟨c1, c3⟩ := bb2 c1
  obtain ⟨c2, c4⟩ := bb2 c2
  have h0 : τ ≠ 0 := fun e => by
    rw [Bool.not_eq_true', beq_iff.mpr e] at c4
    cases c4
  have h2 := MK_new h hM g n n
  have hk1 := h.1
  have ha : a < s := h.2.2.1
  have e : (((n : Nat) : Int)).toNat = n := Int.toNat_natCast n
  refine s_aload_n (i := 0) d1 hl (hpush _ _ _ _ _ _ (s_newa (g := g) d3 (Int.natCast_nonneg _) (by omega) hg ?_))
  rw [e]
  refine s_putR d4 hp h2.2.2.2.1 hc rfl ?_
  refine kk (gup Γ s τ) _ (MK_put ?_ hj gup_at h0 (fun _ i => if_pos rfl))
  -- the row is typed
  obtain ⟨k1, k2, k3, k4, k5, k6, k7, k8, k10, k11, k12⟩ := h2
  refine ⟨HTy_arr hk1 n ⟨beq_iff.mp c1, beq_iff.mp c3⟩ c2, by rw [gup_ne (by omega)]; exact k2, k3, k4, fun q hq => ?_, k6, k7, k8, fun b b1 b2 => ?_, k11, k12⟩
  · obtain ⟨b, b1, b2, b3, b4⟩ := k5 q hq
    have hb : b < s := HTy_lt hk1 (by rw [b2]; exact b3)
    exact ⟨b, b1, by rw [gup_ne (by omega)]; exact b2, b3, b4⟩
  · have : M0.1 ≤ s := h.2.2.2.2.2.2.2.1.1
    rw [gup_ne (by omega)]
    exact k10 b b1 b2
/-- a field is given a new object -/
theorem mk_sub (h : MK Γ0 M0 E a C da ds fs il Γ M) (hM : a < M0.1) (hl : ls[0]? = some (vr a)) {idx i1 i2 y C2 n2 τ j da2 ds2 dk : Nat} {E2 : List EF} {z : Bool} (d1 : decode (mcode k) pc = .ok (.aload_n 0, 1)) (d2 : decode (mcode k) (pc + 1) = .ok (.new i1, 3)) (d3 : decode (mcode k) (pc + 1 + 3) = .ok (.dup, 1)) (d4 : decode (mcode k) (pc + 1 + 3 + 1) = .ok (.invokespecial i2, 3)) (d5 : decode (mcode k) (pc + 1 + 3 + 1 + 3) = .ok (.putfield idx, 3))
    (hp1 : pool (mcls k) i1 = some (5, C2, n2)) (hp2 : pool (mcls k) i2 = some (4, y, 0)) (hs : mstat y = false) (hn : ((mname y).name == "<init>") = true) (hct : CT0 y C2 τ E2 da2 ds2 dk z) (hd : dk ≤ d) (hp : pool (mcls k) idx = some (3, C, j)) (hc : fn C j = false ∨ ((mname k).name = "<init>" ∧ mcls k = C)) (hE : efsIn E2 E = true) (h0 : τ ≠ 0) (hj : ((clrF E2 fs).all fun q => not (Nat.beq q.1 j)) = true)
    (kk : ∀ Γ2 M2, MK Γ0 M0 E a C (da + 1 + da2) (ds + n2 + ds2) (clrF E2 fs ++ [(j, τ, z)]) il Γ2 M2 → Wm d k (pc + 1 + 3 + 1 + 3 + 3) ls [] M2 Q) : Wm d k pc ls [] M Q := by
  obtain ⟨s, u, K, R, I⟩ := M
  have h2 := MK_new h hM C2 0 n2
  have ha : a < s := h.2.2.1
  have hM0 : M0.1 ≤ s := h.2.2.2.2.2.2.2.1.1
  have hs0 : Γ s = 0 := HTy_un h.1 (Nat.le_refl _)
  refine s_aload_n (i := 0) d1 hl (s_new d2 hp1 (s_dup d3 rfl (s_ini0 d4 hp2 hs hn (show (2 : Nat) ≤ 8 by decide) (hct d Γ _ s hd h2.1 hs0 (Nat.lt_succ_self _) (if_pos rfl) (fun _ => if_pos rfl) (fun _ => if_pos rfl)) ?_)))
  rintro r M1 ⟨hr, Γ2, g1, g2, g3, g4, g5, g6, g7⟩
  refine ⟨hr, ?_⟩
  have h3 := MK_go h2 s (by omega) hM0 hs0 g1 g3 g4 hE g5 g6
  obtain ⟨s1, u1, K1, R1, I1⟩ := M1
  exact s_putR d5 hp h3.2.2.2.1 hc rfl (kk Γ2 _ (MK_put h3 hj g2 h0 g7))
end
/-- places that are known for good -/
def PIN (pins : List (Nat × Nat × Nat)) (Γ Γ2 : Nat → Nat) (M2 : MM) : Prop := ∀ p ∈ pins, M2.2.2.2.1 p.1 p.2.1 = some p.2.2 ∧ Γ2 p.1 = Γ p.1 ∧ p.1 < M2.1
theorem PIN_go {pins : List (Nat × Nat × Nat)} {Γ0 Γ Γ2 : Nat → Nat} {M M2 : MM} {x : Nat} {E2 : List EF} (h : PIN pins Γ0 Γ M) (hx : ∀ p ∈ pins, p.1 ≠ x) (hF : FRA x E2 Γ M M2) (hG : ∀ b, b < M.1 → b ≠ x → Γ2 b = Γ b) (hE : ∀ p ∈ pins, ∀ e ∈ E2, Γ0 p.1 ≠ e.1) : PIN pins Γ0 Γ2 M2 := fun p hp => by
  obtain ⟨h1, h2, h3⟩ := h p hp
  obtain ⟨-, q⟩ := hF.2 p.1 h3 (hx p hp)
  exact ⟨((q p.2.1 (fun e he e1 _ _ => absurd (h2.symm.trans e1) (hE p hp e he))).2).trans h1, (hG _ h3 (hx p hp)).trans h2, Nat.lt_of_lt_of_le h3 hF.1⟩
/-- a field is given a new object; places that are known stay -/
theorem mk_subP {Γ0 : Nat → Nat} {M0 : MM} {E : List EF} {a C da ds : Nat} {fs : List (Nat × Nat × Bool)} {il : List (Nat × Int)} {Γ : Nat → Nat} {M : MM} {d k pc : Nat} {ls : List MV} {Q : Option MV → MM → Prop} (pins : List (Nat × Nat × Nat)) {ΓP : Nat → Nat} (hP : PIN pins ΓP Γ M) (h : MK Γ0 M0 E a C da ds fs il Γ M) (hM : a < M0.1) (hl : ls[0]? = some (vr a)) {idx i1 i2 y C2 n2 τ j da2 ds2 dk : Nat} {E2 : List EF} {z : Bool} (d1 : decode (mcode k) pc = .ok (.aload_n 0, 1)) (d2 : decode (mcode k) (pc + 1) = .ok (.new i1, 3)) (d3 : decode (mcode k) (pc + 1 + 3) = .ok (.dup, 1)) (d4 : decode (mcode k) (pc + 1 + 3 + 1) = .ok (.invokespecial i2, 3)) (d5 : decode (mcode k) (pc + 1 + 3 + 1 + 3) = .ok (.putfield idx, 3))
    (hp1 : pool (mcls k) i1 = some (5, C2, n2)) (hp2 : pool (mcls k) i2 = some (4, y, 0)) (hs : mstat y = false) (hn : ((mname y).name == "<init>") = true) (hct : CT0 y C2 τ E2 da2 ds2 dk z) (hd : dk ≤ d) (hp : pool (mcls k) idx = some (3, C, j)) (hc : fn C j = false ∨ ((mname k).name = "<init>" ∧ mcls k = C)) (hE : efsIn E2 E = true) (h0 : τ ≠ 0) (hj : ((clrF E2 fs).all fun q => not (Nat.beq q.1 j)) = true)
    (hPE : ∀ p ∈ pins, ∀ e ∈ E2, ΓP p.1 ≠ e.1) (hPj : ∀ p ∈ pins, p.2.1 ≠ j)
    (kk : ∀ Γ2 M2, PIN pins ΓP Γ2 M2 → MK Γ0 M0 E a C (da + 1 + da2) (ds + n2 + ds2) (clrF E2 fs ++ [(j, τ, z)]) il Γ2 M2 → Wm d k (pc + 1 + 3 + 1 + 3 + 3) ls [] M2 Q) : Wm d k pc ls [] M Q := by
  obtain ⟨s, u, K, R, I⟩ := M
  have h2 := MK_new h hM C2 0 n2
  have ha : a < s := h.2.2.1
  have hM0 : M0.1 ≤ s := h.2.2.2.2.2.2.2.1.1
  have hs0 : Γ s = 0 := HTy_un h.1 (Nat.le_refl _)
  have hlt : ∀ p ∈ pins, p.1 < s := fun p q => (hP p q).2.2
  refine s_aload_n (i := 0) d1 hl (s_new d2 hp1 (s_dup d3 rfl (s_ini0 d4 hp2 hs hn (show (2 : Nat) ≤ 8 by decide) (hct d Γ _ s hd h2.1 hs0 (Nat.lt_succ_self _) (if_pos rfl) (fun _ => if_pos rfl) (fun _ => if_pos rfl)) ?_)))
  rintro r M1 ⟨hr, Γ2, g1, g2, g3, g4, g5, g6, g7⟩
  refine ⟨hr, ?_⟩
  have h3 := MK_go h2 s (by omega) hM0 hs0 g1 g3 g4 hE g5 g6
  have hP2 : PIN pins ΓP Γ (s + 1, u + n2, upk K s (C2, 0), upz R s none, upz I s 0) := fun p q => by
    obtain ⟨q1, q2, q3⟩ := hP p q
    have : p.1 ≠ s := Nat.ne_of_lt q3
    exact ⟨(if_neg this : upz R s none p.1 p.2.1 = R p.1 p.2.1).trans q1, q2, Nat.lt_succ_of_lt q3⟩
  have hP3 := PIN_go (x := s) hP2 (fun p q => Nat.ne_of_lt (hlt p q)) g3 g4 hPE
  obtain ⟨s1, u1, K1, R1, I1⟩ := M1
  refine s_putR d5 hp h3.2.2.2.1 hc rfl (kk Γ2 _ (fun p q => ?_) (MK_put h3 hj g2 h0 g7))
  obtain ⟨q1, q2, q3⟩ := hP3 p q
  exact ⟨(if_neg (fun w => hPj p q w.2) : up R1 a j (some s) p.1 p.2.1 = R1 p.1 p.2.1).trans q1, q2, q3⟩
/-- a row of places -/
theorem mk_anew {Γ0 : Nat → Nat} {M0 : MM} {E : List EF} {a C da ds : Nat} {fs : List (Nat × Nat × Bool)} {il : List (Nat × Int)} {Γ : Nat → Nat} {M : MM} {d k pc : Nat} {ls : List MV} {Q : Option MV → MM → Prop} (h : MK Γ0 M0 E a C da ds fs il Γ M) (hM : a < M0.1) (hl : ls[0]? = some (vr a)) {p2 idx ix τ j n : Nat} (d1 : decode (mcode k) pc = .ok (.aload_n 0, 1))
    (hpush : ∀ (s u : Nat) (K : Nat → Nat × Nat) (R : Nat → Nat → Option Nat) (I : Nat → Nat → Int) (t : List MV), Wm d k p2 ls (vi (n : Int) :: t) (s, u, K, R, I) Q → Wm d k (pc + 1) ls t (s, u, K, R, I) Q)
    (d3 : decode (mcode k) p2 = .ok (.anewarray ix, 3)) (hpx : pool (mcls k) ix = some (5, 10, 3)) (d4 : decode (mcode k) (p2 + 3) = .ok (.putfield idx, 3)) (hp : pool (mcls k) idx = some (3, C, j)) (hc : fn C j = false ∨ ((mname k).name = "<init>" ∧ mcls k = C)) (hn : n ≤ 100000) (hτ : chkA τ 22 n = true) (hj : (fs.all fun q => not (Nat.beq q.1 j)) = true)
    (kk : ∀ Γ2 M2, MK Γ0 M0 E a C (da + 1) (ds + n) (fs ++ [(j, τ, true)]) il Γ2 M2 → Wm d k (p2 + 3 + 3) ls [] M2 Q) : Wm d k pc ls [] M Q := by
  obtain ⟨s, u, K, R, I⟩ := M
  obtain ⟨c1, c2⟩ := bb2 hτ
  obtain ⟨c1, c3⟩ := bb2 c1
  obtain ⟨c2, c4⟩ := bb2 c2
  have h0 : τ ≠ 0 := fun e => by
    rw [Bool.not_eq_true', beq_iff.mpr e] at c4
    cases c4
  have h2 := MK_new h hM 22 n n
  have hk1 := h.1
  have ha : a < s := h.2.2.1
  have e : (((n : Nat) : Int)).toNat = n := Int.toNat_natCast n
  refine s_aload_n (i := 0) d1 hl (hpush _ _ _ _ _ _ (s_anew d3 hpx (Int.natCast_nonneg _) (by omega) ?_))
  rw [e]
  refine s_putR d4 hp h2.2.2.2.1 hc rfl ?_
  refine kk (gup Γ s τ) _ (MK_put ?_ hj gup_at h0 (fun _ i => if_pos rfl))
  obtain ⟨k1, k2, k3, k4, k5, k6, k7, k8, k10, k11, k12⟩ := h2
  refine ⟨HTy_arr hk1 n ⟨beq_iff.mp c1, beq_iff.mp c3⟩ c2, by rw [gup_ne (by omega)]; exact k2, k3, k4, fun q hq => ?_, k6, k7, k8, fun b b1 b2 => ?_, k11, k12⟩
  · obtain ⟨b, b1, b2, b3, b4⟩ := k5 q hq
    have hb : b < s := HTy_lt hk1 (by rw [b2]; exact b3)
    exact ⟨b, b1, by rw [gup_ne (by omega)]; exact b2, b3, b4⟩
  · have : M0.1 ≤ s := h.2.2.2.2.2.2.2.1.1
    rw [gup_ne (by omega)]
    exact k10 b b1 b2
/-- no place is wanted to be of this type -/
def norefB (τ : Nat) : Bool := Yl.all fun T => T.2.2.2.all fun r => not (Nat.beq r.2.2.1 τ)
/-- the type of a is a narrower one -/
theorem HTy_re {Γ : Nat → Nat} {M : MM} (hT : HTy Yt Γ M) {a τ τ2 : Nat} (ha : Γ a = τ) (h0 : τ ≠ 0) (hk : (Yt τ2).1 = (Yt τ).1 ∧ (Yt τ2).2.1 = (Yt τ).2.1 ∧ (Yt τ2).2.2.2 = (Yt τ).2.2.2) (hn : norefB τ = true) (hI : ∀ r ∈ (Yt τ2).2.2.1, ∀ j, r.1 ≤ j → j < r.2.1 → r.2.2.1 ≤ M.2.2.2.2 a j ∧ M.2.2.2.2 a j ≤ r.2.2.2) : HTy Yt (gup Γ a τ2) M := by
  unfold norefB at hn
  rw [List.all_eq_true] at hn
  have key : ∀ σ, ∀ r ∈ (Yt σ).2.2.2, r.2.2.1 ≠ τ := by
    intro σ r hr e
    by_cases hs : σ < Yl.length
    · have e2 : Yt σ = Yl[σ] := by
        unfold Yt
        rw [List.getD_eq_getElem?_getD, List.getElem?_eq_getElem hs]
        rfl
      rw [e2] at hr
      have := hn _ (List.getElem_mem hs)
      rw [List.all_eq_true] at this
      have := this r hr
      rw [Bool.not_eq_true', beq_iff.mpr e] at this
      cases this
    · have e2 : Yt σ = (99, 0, [], []) := by
        unfold Yt
        rw [List.getD_eq_getElem?_getD, List.getElem?_eq_none (by omega)]
        rfl
      rw [e2] at hr
      exact absurd hr List.not_mem_nil
  have ref : ∀ σ, ∀ r ∈ (Yt σ).2.2.2, ∀ j b, ((M.2.2.2.1 b j = none ∧ r.2.2.2 = true) ∨ ∃ c, M.2.2.2.1 b j = some c ∧ Γ c = r.2.2.1 ∧ r.2.2.1 ≠ 0) → ((M.2.2.2.1 b j = none ∧ r.2.2.2 = true) ∨ ∃ c, M.2.2.2.1 b j = some c ∧ gup Γ a τ2 c = r.2.2.1 ∧ r.2.2.1 ≠ 0) := by
    intro σ r hr j b h
    rcases h with h | ⟨c, c1, c2, c3⟩
    · exact Or.inl h
    · exact Or.inr ⟨c, c1, by rw [gup_ne (fun p => key σ r hr (by rw [← c2, p, ha]))]; exact c2, c3⟩
  intro b hb
  by_cases hne : b = a
  · subst hne
    rw [gup_at] at hb ⊢
    obtain ⟨t1, t2, -, t4⟩ := hT b (by rw [ha]; exact h0)
    rw [ha] at t2 t4
    refine ⟨t1, by unfold KD at t2 ⊢; rw [hk.1, hk.2.1]; exact t2, hI, fun r hr j h1 h2 => ?_⟩
    rw [hk.2.2] at hr
    exact ref τ r hr j b (t4 r hr j h1 h2)
  · rw [gup_ne hne] at hb ⊢
    obtain ⟨t1, t2, t3, t4⟩ := hT b hb
    exact ⟨t1, t2, t3, fun r hr j h1 h2 => ref (Γ b) r hr j b (t4 r hr j h1 h2)⟩
