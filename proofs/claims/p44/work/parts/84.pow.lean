/-! a product of two longs, tried by a division first: walked by hand (EP) -/
def powD (k pc i1 i2 : Nat) : Prop := (decode (mcode k) pc = .ok (.lload 4, 2) ∧ decode (mcode k) (pc + 2) = .ok (.lconst 0, 1) ∧ decode (mcode k) (pc + 3) = .ok (.lcmp, 1) ∧ decode (mcode k) (pc + 4) = .ok (.ifCond .le 18, 3) ∧ decode (mcode k) (pc + 7) = .ok (.lload_n 2, 1) ∧ decode (mcode k) (pc + 8) = .ok (.ldc2_w i1, 3) ∧ decode (mcode k) (pc + 11) = .ok (.lload 4, 2) ∧ decode (mcode k) (pc + 13) = .ok (.ldiv, 1) ∧ decode (mcode k) (pc + 14) = .ok (.lcmp, 1)) ∧ (decode (mcode k) (pc + 15) = .ok (.ifCond .le 7, 3) ∧ decode (mcode k) (pc + 18) = .ok (.ldc2_w i2, 3) ∧ decode (mcode k) (pc + 21) = .ok (.lreturn, 1) ∧ decode (mcode k) (pc + 22) = .ok (.lload 4, 2) ∧ decode (mcode k) (pc + 24) = .ok (.lload_n 2, 1) ∧ decode (mcode k) (pc + 25) = .ok (.lmul, 1) ∧ decode (mcode k) (pc + 26) = .ok (.lreturn, 1)) ∧ csl (mcls k) i1 = some 9223372036854775807 ∧ csl (mcls k) i2 = some (-1) ∧ mret k = some .long
theorem pow_w {d k pc i1 i2 : Nat} (h : powD k pc i1 i2) {ls : List MV} {M : MM} {Q : Option MV → MM → Prop} {x y : Int} (hx : ls[2]? = some (vl x)) (hy : ls[4]? = some (vl y)) (hQ : ∀ z, Q (some (vl z)) M) : Wm d k pc ls [] M Q := by
  obtain ⟨⟨a1, a2, a3, a4, a5, a6, a7, a8, a9⟩, ⟨b1, b2, b3, b4, b5, b6, b7⟩, c1, c2, c3⟩ := h
  obtain ⟨s, u, K, R, I⟩ := M
  have T : Wm d k (pc + 22) ls [] (s, u, K, R, I) Q := s_lload b4 hy (s_lload_n (i := 2) b5 hx (s_lmul b6 (s_lret b7 c3 (hQ _))))
  refine s_lload a1 hy (s_lconst (n := 0) (x := 0) a2 rfl (s_lcmp a3 (s_if_le (pc + 22) a4 (by omega) (fun _ => T) (fun h0 => ?_))))
  have hy0 : y ≠ 0 := by
    intro h1
    subst h1
    exact absurd h0 (by decide)
  refine s_lload_n (i := 2) a5 hx (s_ldc2 a6 c1 ⟨by decide, by decide⟩ (s_lload a7 hy (s_ldiv a8 hy0 (s_lcmp a9 (s_if_le (pc + 22) b1 (by omega) (fun _ => T) (fun _ => ?_))))))
  exact s_ldc2 b2 c2 ⟨by decide, by decide⟩ (s_lret b3 c3 (hQ _))
def powS (t : KT) (S : SE) : Bool := ((match S.1[2]? with | some v => isL v | none => false) && (match S.1[4]? with | some v => isL v | none => false)) && ((match S.2.1 with | [] => true | _ => false) && (Nat.ble S.2.2.2.2.2.2.1 (kAo t) && Nat.ble S.2.2.2.2.2.2.2 (kAs t)))
def powE (t : KT) (n0 : Nat) : EPT := fun n => cond (Nat.beq n n0) (some (powS t)) none
theorem ARs.ix {ρ : Nat → Int} {α Γ : Nat → Nat} : ∀ {a : List AV} {b : List MV} {i : Nat} {v : AV}, ARs ρ α Γ a b → a[i]? = some v → ∃ m, b[i]? = some m ∧ AR ρ α Γ v m
  | [], _, i, v, _, h => by rw [List.getElem?_nil] at h; cases h
  | x :: a, b, 0, v, r, h => by
    obtain ⟨m, t, rfl, h1, h2⟩ := ARs.cons r
    cases (show some x = some v from h)
    exact ⟨m, rfl, h1⟩
  | x :: a, b, i + 1, v, r, h => by
    obtain ⟨m, t, rfl, h1, h2⟩ := ARs.cons r
    exact ARs.ix (i := i) h2 h
theorem powE_ok {Y : Nat → TYE} {PS : PST} {t : KT} {dk n0 pc i1 i2 : Nat} (hh : (match (ops (kM t)).drop n0 with | e :: _ => Nat.beq e.1 pc | [] => false) = true) (hR : (kRes t).1 = 3) (h : powD (kM t) pc i1 i2) : EPok Y PS t dk (powE t n0) := by
  intro n f hf d _ g0 g1 ρ0 α0 Γ0 M0 S hS
  cases hb : Nat.beq n n0 with
  | false =>
    unfold powE at hf
    rw [hb] at hf
    cases hf
  | true =>
    unfold powE at hf
    rw [hb] at hf
    cases hf
    have := beq_iff.mp hb
    subst this
    obtain ⟨e, r, hq, he⟩ : ∃ e r, (ops (kM t)).drop n = e :: r ∧ e.1 = pc := by
      split at hh
      · rename_i e r hq
        exact ⟨e, r, hq, beq_iff.mp hh⟩
      · cases hh
    refine ⟨e, r, hq, fun ρ α Γ M ls2 st2 rel => ?_⟩
    obtain ⟨h1, h2⟩ := bb2 hS
    obtain ⟨h1, h3⟩ := bb2 h1
    obtain ⟨h2, h4⟩ := bb2 h2
    obtain ⟨h4, h5⟩ := bb2 h4
    obtain ⟨ls, st, S3⟩ := S
    obtain ⟨r1, -, r3, r4, -, -, r7, r8, r9, r10⟩ := rel
    have hst : st2 = [] := by
      match st, h2, r4 with
      | [], _, r4 => exact r4.nil
      | _ :: _, h2, _ => cases h2
    subst hst
    have gx : ∀ i : Nat, (match ls[i]? with | some v => isL v | none => false) = true → ∃ x, ls2[i]? = some (vl x) := by
      intro i hi
      split at hi
      · rename_i v hv
        obtain ⟨m, hm, ha⟩ := r3.ix hv
        obtain ⟨x, rfl, -⟩ := ha.lng hi
        exact ⟨x, hm⟩
      · cases hi
    obtain ⟨x, hx⟩ := gx 2 h1
    obtain ⟨y, hy⟩ := gx 4 h3
    rw [he]
    refine pow_w h hx hy fun z => ⟨Γ, r1, r7, r8, Nat.le_trans r9 (Nat.add_le_add_left (ble_iff.mp h4) _), Nat.le_trans r10 (Nat.add_le_add_left (ble_iff.mp h5) _), ?_⟩
    unfold RESok
    rw [hR]
    exact ⟨z, rfl⟩
