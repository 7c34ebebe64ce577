/-! THE CHECKER: loops by measures, methods -/
abbrev MC : Type := Nat × Nat × Int
/-- index, sources of the names, what they are, their bounds, locals, what is known, cells and slots made, measure -/
abbrev CUT : Type := Nat × List Nat × List AV × BC × List AV × List PFE × (Nat × Nat) × List MC
/-- a name's source: a local; from 1000 on the cell (j mod 100) of the place in the local (j - 1000) / 100; from 100000 on the number at the place j mod 20 of the latest fact (j - 100000) / 10 -/
def fsB (j : Nat) : Bool := Nat.ble 1000 j && not (Nat.ble 100000 j)
def srcOf (S : SE) (j : Nat) : AV := cond (fsB j) (match fdM S.2.2.2.2.1 (S.1.getD ((j - 1000) / 100) aD).2.1 (aC (Int.ofNat ((j - 1000) % 100))) with
  | some w => w
  | none => aD) (cond (Nat.ble 100000 j) (srcF S ((j - 100000) / 20) ((j - 100000) % 20)) (S.1.getD j aD))
def mfE (A : CUT) (i : Nat) : MFE := ((A.2.2.2.2.1.getD ((A.2.1.getD i 0 - 1000) / 100) aD).2.1, (A.2.2.2.2.1.getD ((A.2.1.getD i 0 - 1000) / 100) aD).2.2.1, aC (Int.ofNat ((A.2.1.getD i 0 - 1000) % 100)), A.2.2.1.getD i aD)
def mfA (A : CUT) : List MFE := ((List.range A.2.1.length).filter fun i => fsB (A.2.1.getD i 0)).map (mfE A)
def mfC (A : CUT) (S : SE) : Bool := (List.range A.2.1.length).all fun i => not (fsB (A.2.1.getD i 0)) || ((Nat.beq (A.2.2.1.getD i aD).1 1 || Nat.beq (A.2.2.1.getD i aD).1 2) && (Nat.beq (A.2.2.2.2.1.getD ((A.2.1.getD i 0 - 1000) / 100) aD).1 2 && Nat.beq (S.1.getD ((A.2.1.getD i 0 - 1000) / 100) aD).1 2))
def cSt (A : CUT) : SE := (A.2.2.2.2.1, [], A.2.2.2.1, A.2.2.1.length, mfA A, A.2.2.2.2.2.1, A.2.2.2.2.2.2.1.1, A.2.2.2.2.2.2.1.2)
def cMs (A : CUT) : List MC := A.2.2.2.2.2.2.2
def lsOK (vs : List AV) : List AV → List AV → Bool
  | [], [] => true
  | v :: a, w :: b => (Nat.beq v.1 7 || ((Nat.beq v.1 4 && (isL w && Nat.beq v.2.2.1 0)) || (Nat.ble v.1 2 && (wfK vs aD v && (avEq (subK vs aD v) w && (Nat.ble v.1 1 || (Nat.beq v.1 2 && Nat.beq v.2.2.1 w.2.2.1))))))) && lsOK vs a b
  | _, _ => false
def srcV (A : CUT) (S : SE) : List AV := A.2.1.map (srcOf S)
def accA (A : CUT) (S : SE) : Bool := mfC A S && (((argK S.2.2.1 A.2.2.2.1 0 (srcV A S) A.2.2.1 && Nat.ble A.2.2.2.1.length (srcV A S).length) && (S.2.1.isEmpty && lsOK (srcV A S) A.2.2.2.2.1 S.1)) &&
  ((wfP (srcV A S) aD A.2.2.2.2.2.1 && allD S.2.2.1 S.2.2.2.2.1 (subP (srcV A S) aD A.2.2.2.2.2.1) S.2.2.2.2.2.1) && ((Nat.ble S.2.2.2.2.2.2.1 A.2.2.2.2.2.2.1.1 && Nat.ble S.2.2.2.2.2.2.2 A.2.2.2.2.2.2.1.2) && A.2.2.2.2.2.1.all fun p => not (Nat.beq p.1 1))))
section
variable {Y : Nat → TYE} {PS : PST} {dep : Nat → List EF} {Γ0 : Nat → Nat} {M0 : MM} {d k : Nat} {E : List EF}
variable {t : KT} {g0 g1 : List MV}
theorem lsOK_ok {ρ : Nat → Int} {α Γ : Nat → Nat} {ρc : Nat → Int} {αc : Nat → Nat} {vs : List AV} (hL : LK ρ α ρc αc vs) : ∀ {a b : List AV} {ms : List MV}, lsOK vs a b = true → ARs ρ α Γ b ms → ARs ρc αc Γ a ms
  | [], [], ms, _, r => by rw [r.nil]; trivial
  | [], _ :: _, _, h, _ => by cases h
  | _ :: _, [], _, h, _ => by cases h
  | v :: a, w :: b, ms, h, r => by
    obtain ⟨h1, h2⟩ := bb2 (show ((Nat.beq v.1 7 || ((Nat.beq v.1 4 && (isL w && Nat.beq v.2.2.1 0)) || (Nat.ble v.1 2 && (wfK vs aD v && (avEq (subK vs aD v) w && (Nat.ble v.1 1 || (Nat.beq v.1 2 && Nat.beq v.2.2.1 w.2.2.1))))))) && lsOK vs a b) = true from h)
    obtain ⟨m, t, rfl, r1, r2⟩ := ARs.cons r
    refine ⟨?_, lsOK_ok hL h2 r2⟩
    rw [Bool.or_eq_true, Bool.or_eq_true] at h1
    rcases h1 with h1 | h1 | h1
    · unfold AR
      rw [beq_iff.mp h1]
      trivial
    · obtain ⟨q1, q2⟩ := bb2 h1
      obtain ⟨q2, q3⟩ := bb2 q2
      obtain ⟨x, rfl, -⟩ := r1.lng q2
      unfold AR
      rw [beq_iff.mp q1]
      exact ⟨fun q => (by rw [beq_iff.mp q3] at q; cases q), x, rfl, fun q => (by rw [beq_iff.mp q3] at q; cases q)⟩
    · obtain ⟨q1, q2⟩ := bb2 h1
      obtain ⟨q2, q3⟩ := bb2 q2
      obtain ⟨q3, q4⟩ := bb2 q3
      have hv := subK_ok (ρ := ρ) (α := α) (x := ρc vs.length) (w := aD) hL (fun q => (by cases (show false = true from q))) q2
      have e : upI ρc vs.length (ρc vs.length) = ρc := by
        funext j
        unfold upI
        split
        · rename_i hj
          rw [hj]
        · rfl
      rw [e] at hv
      have hw : valO ρ α w = valO ρ α (subK vs aD v) := by
        obtain ⟨e1, e2⟩ := bb2 q3
        obtain ⟨e2, e3⟩ := bb2 e2
        rw [eqB_iff] at e3
        unfold valO
        rw [beq_iff.mp e1, beq_iff.mp e2, e3]
      have hwt : Nat.ble w.1 2 = true := by
        have e1 := beq_iff.mp (bb2 q3).1
        have : Nat.ble (subK vs aD v).1 2 = true := by
          obtain ⟨tg, j, τ, c⟩ := v
          match tg, q2, q1 with
          | 0, _, _ => rfl
          | 1, q2, _ =>
            have q2 : cond (Nat.beq j vs.length) (isI aD) (match vs[j]? with
              | some u => isI u
              | none => false) = true := q2
            show Nat.ble (cond (Nat.beq j vs.length) (offV aD c) (match vs[j]? with
              | some u => offV u c
              | none => aD)).1 2 = true
            cases hb : Nat.beq j vs.length with
            | true => rw [hb, cond_true] at q2; cases (show false = true from q2)
            | false =>
              rw [hb, cond_false] at q2
              rw [cond_false]
              split at q2
              · rename_i u hu
                have := ble_iff.mp (show Nat.ble u.1 1 = true from q2)
                exact ble_iff.mpr (show u.1 ≤ 2 by omega)
              · cases q2
          | 2, q2, _ =>
            have q2 : (match vs[j]? with
              | some u => Nat.beq u.1 2
              | none => false) = true := q2
            show Nat.ble (match vs[j]? with
              | some u => ((2, u.2.1, u.2.2.1, 0) : AV)
              | none => aD).1 2 = true
            split at q2
            · rfl
            · cases q2
          | tg + 3, _, qT => cases (show false = true from qT)
        rw [← e1]
        exact this
      have hm := (r1.val hwt).trans (hw.trans hv)
      obtain ⟨tg, j, τ, c⟩ := v
      rw [Bool.or_eq_true] at q4
      rcases q4 with q4 | q4
      · have hI : isI (tg, j, τ, c) = true := q4
        rw [hm, valO_int hI]
        exact AR.ofI hI
      · obtain ⟨q5, q6⟩ := bb2 q4
        have h2t : tg = 2 := beq_iff.mp q5
        subst h2t
        have hw2 : w.1 = 2 := by
          have e1 := beq_iff.mp (bb2 q3).1
          have q2 : (match vs[j]? with
              | some u => Nat.beq u.1 2
              | none => false) = true := q2
          have e1 : (match vs[j]? with
              | some u => ((2, u.2.1, u.2.2.1, 0) : AV)
              | none => aD).1 = w.1 := e1
          split at q2
          · rename_i u hu
            rw [hu] at e1
            exact e1.symm
          · cases q2
        obtain ⟨z1, z2, z3⟩ := r1.ref hw2
        have q6 : τ = w.2.2.1 := beq_iff.mp q6
        have hm : m = vr (αc j) := hm
        rw [z1] at hm
        have hz := Option.some.inj (Sum.inr.inj (Sum.inr.inj hm))
        exact ⟨by rw [z1, hz], by show Γ (αc j) = τ; rw [← hz, q6]; exact z2, by rw [q6]; exact z3⟩
theorem argK_at {C B : BC} : ∀ {i j : Nat} {vs as : List AV} {v : AV}, argK C B i vs as = true → vs[j]? = some v → ∃ a, as[j]? = some a ∧ argB C B (i + j) v a = true
  | _, _, [], _, _, _, h => by cases h
  | _, _, _ :: _, [], _, h, _ => by cases h
  | i, 0, v :: vs, a :: as, w, h, h2 => by
    cases h2
    exact ⟨a, rfl, (bb2 (show (argB C B i v a && argK C B (i + 1) vs as) = true from h)).1⟩
  | i, j + 1, v :: vs, a :: as, w, h, h2 => by
    obtain ⟨b, q1, q2⟩ := argK_at (j := j) (bb2 (show (argB C B i v a && argK C B (i + 1) vs as) = true from h)).2 h2
    rw [show i + 1 + j = i + (j + 1) by omega] at q2
    exact ⟨b, q1, q2⟩
theorem accA_ok (hW : PSw (gPS g0 g1 PS)) {A : CUT} {S : SE} {ρ : Nat → Int} {α Γ : Nat → Nat} {M : MM} {ls2 st2 : List MV} {g2 : List MV} (h : accA A S = true) (r : REL Y (gPS g0 g1 PS) E Γ0 M0 ρ α Γ M S ls2 st2) : st2 = [] ∧ ∃ ρ2 α2, REL Y (gPS g0 g2 PS) E Γ0 M0 ρ2 α2 Γ M (cSt A) ls2 [] := by
  obtain ⟨hmf, h⟩ := bb2 h
  obtain ⟨h1, h2⟩ := bb2 h
  obtain ⟨h1, h3⟩ := bb2 h1
  obtain ⟨harg, hbl⟩ := bb2 h1
  obtain ⟨hst, hls⟩ := bb2 h3
  obtain ⟨h2, h4⟩ := bb2 h2
  obtain ⟨hwp, hpf⟩ := bb2 h2
  obtain ⟨h4, hid⟩ := bb2 h4
  obtain ⟨hao, has⟩ := bb2 h4
  have hst2 : st2 = [] := by
    have := r.2.2.2.1
    rw [List.isEmpty_iff] at hst
    rw [hst] at this
    exact this.nil
  refine ⟨hst2, rhoC ρ (srcV A S), alC α (srcV A S), r.1, ?_, ?_, trivial, ?_, ?_, ?_⟩
  · have hbl := ble_iff.mp hbl
    have hv : ∃ ms, ARs ρ α Γ (srcV A S) ms := by
      have key : ∀ l : List Nat, ∃ ms, ARs ρ α Γ (l.map (srcOf S)) ms := by
        intro l
        induction l with
        | nil => exact ⟨[], trivial⟩
        | cons j l ih =>
          obtain ⟨ms, q⟩ := ih
          cases hc : fsB j with
          | true =>
            have e : srcOf S j = (match fdM S.2.2.2.2.1 (S.1.getD ((j - 1000) / 100) aD).2.1 (aC (Int.ofNat ((j - 1000) % 100))) with
              | some w => w
              | none => aD) := by unfold srcOf; rw [hc, cond_true]
            cases hf : fdM S.2.2.2.2.1 (S.1.getD ((j - 1000) / 100) aD).2.1 (aC (Int.ofNat ((j - 1000) % 100))) with
            | none =>
              rw [hf] at e
              refine ⟨vn :: ms, ?_, q⟩
              rw [e]
              trivial
            | some w =>
              rw [hf] at e
              rcases fdM_ok r.2.2.2.2.1 hf with ⟨q1, -⟩ | ⟨-, q2⟩
              · refine ⟨vi (iv ρ w) :: ms, ?_, q⟩
                rw [e]
                exact AR.ofI q1
              · refine ⟨vq (M.2.2.2.1 (α (S.1.getD ((j - 1000) / 100) aD).2.1) (iv ρ (aC (Int.ofNat ((j - 1000) % 100)))).toNat) :: ms, ?_, q⟩
                rw [e]
                exact q2
          | false =>
          cases hc2 : Nat.ble 100000 j with
          | true =>
            have e : srcOf S j = srcF S ((j - 100000) / 20) ((j - 100000) % 20) := by unfold srcOf; rw [hc, cond_false, hc2, cond_true]
            have hF : ∃ m, AR ρ α Γ (srcF S ((j - 100000) / 20) ((j - 100000) % 20)) m := by
              unfold srcF
              split
              · rename_i p _
                cases hc : isI (p.2.getD ((j - 100000) % 20) aD) with
                | true => exact ⟨_, AR.ofI hc⟩
                | false => exact ⟨vn, trivial⟩
              · exact ⟨vn, trivial⟩
            obtain ⟨m, hm⟩ := hF
            refine ⟨m :: ms, ?_, q⟩
            rw [e]
            exact hm
          | false =>
          have e : srcOf S j = S.1.getD j aD := by unfold srcOf; rw [hc, cond_false, hc2, cond_false]
          by_cases hj : j < S.1.length
          · have h9 : S.1[j]? = some S.1[j] := List.getElem?_eq_getElem hj
            obtain ⟨m, -, q2⟩ := r.2.2.1.get j h9
            refine ⟨m :: ms, ?_, q⟩
            rw [e]
            show AR ρ α Γ (S.1.getD j aD) m
            rw [List.getD_eq_getElem?_getD, h9]
            exact q2
          · refine ⟨vn :: ms, ?_, q⟩
            rw [e]
            show AR ρ α Γ (S.1.getD j aD) vn
            rw [List.getD_eq_getElem?_getD, List.getElem?_eq_none (by omega)]
            trivial
      exact key A.2.1
    obtain ⟨ms, hms⟩ := hv
    obtain ⟨-, hb⟩ := argK_ok (ρc := rhoC ρ (srcV A S)) (αc := alC α (srcV A S)) r.2.1 0 _ _ ms harg hms (fun j v hv => by
      rw [Nat.zero_add]
      unfold rhoC alC
      rw [hv]
      exact ⟨rfl, rfl⟩)
    intro i
    show (bnd A.2.2.2.1 i).1 ≤ _ ∧ _ ≤ (bnd A.2.2.2.1 i).2
    by_cases hi : i < (srcV A S).length
    · have := hb i hi
      rw [Nat.zero_add] at this
      exact this
    · have e1 : rhoC ρ (srcV A S) i = 0 := by
        unfold rhoC
        rw [List.getElem?_eq_none (by omega)]
      have e2 : bnd A.2.2.2.1 i = (-2147483648, 2147483647) := by
        unfold bnd
        rw [List.getD_eq_getElem?_getD, List.getElem?_eq_none (by omega)]
        rfl
      rw [e1, e2]
      exact ⟨by show (-2147483648 : Int) ≤ 0; omega, by show (0 : Int) ≤ 2147483647; omega⟩
  · exact lsOK_ok (LK_C ρ α (srcV A S)) hls r.2.2.1
  · have hlsr := lsOK_ok (LK_C ρ α (srcV A S)) hls r.2.2.1
    intro f hf
    obtain ⟨i, hi, rfl⟩ := List.mem_map.mp (show f ∈ ((List.range A.2.1.length).filter fun i => fsB (A.2.1.getD i 0)).map (mfE A) from hf)
    rw [List.mem_filter, List.mem_range] at hi
    obtain ⟨hi, hj⟩ := hi
    unfold mfC at hmf
    rw [List.all_eq_true] at hmf
    have hc := hmf i (List.mem_range.mpr hi)
    rw [hj, Bool.not_true, Bool.false_or] at hc
    obtain ⟨c1, c2⟩ := bb2 hc
    obtain ⟨c2, c3⟩ := bb2 c2
    have hsi : (srcV A S)[i]? = some (srcOf S (A.2.1.getD i 0)) := by
      unfold srcV
      rw [List.getElem?_map, List.getD_eq_getElem?_getD, List.getElem?_eq_getElem hi]
      rfl
    obtain ⟨av, av1, av2⟩ := argK_at harg hsi
    rw [Nat.zero_add] at av2
    have ave : A.2.2.1.getD i aD = av := by rw [List.getD_eq_getElem?_getD, av1]; rfl
    rw [ave] at c1
    generalize hl : (A.2.1.getD i 0 - 1000) / 100 = l at c2 c3
    -- the place
    have hv : ∃ v0, A.2.2.2.2.1[l]? = some v0 ∧ A.2.2.2.2.1.getD l aD = v0 := by
      cases hq : A.2.2.2.2.1[l]? with
      | none =>
        rw [List.getD_eq_getElem?_getD, hq] at c2
        cases (show false = true from c2)
      | some v0 => exact ⟨v0, rfl, by rw [List.getD_eq_getElem?_getD, hq]; rfl⟩
    obtain ⟨v0, v1, v2⟩ := hv
    rw [v2] at c2
    obtain ⟨m, m1, m2⟩ := hlsr.get l v1
    obtain ⟨rfl, g1, g2⟩ := m2.ref (beq_iff.mp c2)
    have hw : ∃ w, S.1[l]? = some w := by
      have : l < S.1.length := by
        have h9 : l < ls2.length := by
          by_cases h : l < ls2.length
          · exact h
          · rw [List.getElem?_eq_none (by omega)] at m1; cases m1
        rw [r.2.2.1.len]
        exact h9
      exact ⟨_, List.getElem?_eq_getElem this⟩
    obtain ⟨w, w1⟩ := hw
    obtain ⟨m', m3, m4⟩ := r.2.2.1.get l w1
    rw [m1] at m3
    cases m3
    -- the cell is known in S
    have e : srcOf S (A.2.1.getD i 0) = (match fdM S.2.2.2.2.1 (S.1.getD l aD).2.1 (aC (Int.ofNat ((A.2.1.getD i 0 - 1000) % 100))) with
      | some w => w
      | none => aD) := by unfold srcOf; rw [hj, cond_true, hl]
    have ew : S.1.getD l aD = w := by rw [List.getD_eq_getElem?_getD, w1]; rfl
    rw [ew] at e
    have hα : α w.2.1 = alC α (srcV A S) v0.2.1 := by
      rw [ew] at c3
      exact (Option.some.inj (Sum.inr.inj (Sum.inr.inj (m4.ref (beq_iff.mp c3)).1))).symm
    unfold mfE
    rw [hl, v2, ave]
    refine ⟨g1, g2, rfl, Int.natCast_nonneg _, ?_⟩
    obtain ⟨ta, ja, τa, ca⟩ := av
    rw [Bool.or_eq_true, beq_iff, beq_iff] at c1
    rcases c1 with c1 | c1
    · have c1 : ta = 1 := c1
      subst c1
      obtain ⟨z1, z2⟩ := bb2 (show ((Nat.beq ja i && eqB ca 0) && (isI (srcOf S (A.2.1.getD i 0)) && _)) = true from av2)
      obtain ⟨z1, z3⟩ := bb2 z1
      obtain ⟨z2, -⟩ := bb2 z2
      have z1 := beq_iff.mp z1
      rw [eqB_iff] at z3
      subst z1
      subst z3
      have hL := (LK_C ρ α (srcV A S) ja _ hsi).1 z2
      cases hf2 : fdM S.2.2.2.2.1 w.2.1 (aC (Int.ofNat ((A.2.1.getD ja 0 - 1000) % 100))) with
      | none =>
        rw [hf2] at e
        rw [e] at z2
        cases (show false = true from z2)
      | some u =>
        rw [hf2] at e
        have e : srcOf S (A.2.1.getD ja 0) = u := e
        rw [e] at z2 hL
        rcases fdM_ok r.2.2.2.2.1 hf2 with ⟨-, q2⟩ | ⟨q1, -⟩
        · refine Or.inl ⟨rfl, ?_⟩
          show M.2.2.2.2 (alC α (srcV A S) v0.2.1) _ = rhoC ρ (srcV A S) ja + 0
          rw [hL, Int.add_zero, ← hα]
          exact q2
        · rw [z2] at q1; cases q1
    · have c1 : ta = 2 := c1
      subst c1
      obtain ⟨z1, z2⟩ := bb2 (show (Nat.beq ja i && ((Nat.beq (srcOf S (A.2.1.getD i 0)).1 2 && Nat.beq (srcOf S (A.2.1.getD i 0)).2.2.1 τa) && _)) = true from av2)
      obtain ⟨z2, -⟩ := bb2 z2
      obtain ⟨z2, z3⟩ := bb2 z2
      have z1 := beq_iff.mp z1
      have z2 := beq_iff.mp z2
      have z3 := beq_iff.mp z3
      subst z1
      have hL := (LK_C ρ α (srcV A S) ja _ hsi).2 z2
      cases hf2 : fdM S.2.2.2.2.1 w.2.1 (aC (Int.ofNat ((A.2.1.getD ja 0 - 1000) % 100))) with
      | none =>
        rw [hf2] at e
        rw [e] at z2
        cases z2
      | some u =>
        rw [hf2] at e
        have e : srcOf S (A.2.1.getD ja 0) = u := e
        rw [e] at z2 z3 hL
        rcases fdM_ok r.2.2.2.2.1 hf2 with ⟨q1, -⟩ | ⟨-, q2⟩
        · unfold isI at q1; rw [z2] at q1; cases q1
        · refine Or.inr ⟨rfl, ?_⟩
          obtain ⟨y1, y2, y3⟩ := q2.ref z2
          rw [z3] at y2 y3
          show vq (M.2.2.2.1 (alC α (srcV A S) v0.2.1) _) = vr (alC α (srcV A S) ja) ∧ Γ (alC α (srcV A S) ja) = τa ∧ τa ≠ 0
          rw [hL, ← hα]
          exact ⟨y1, y2, y3⟩
  · have q := allD_ok hW r.2.1 r.2.2.2.2.1 hpf r.2.2.2.2.2.1
    have q2 := (subP_ok (PS := gPS g0 g1 PS) (x := rhoC ρ (srcV A S) (srcV A S).length) (LK_C ρ α (srcV A S)) (fun q => (by cases (show false = true from q))) hwp).mp q
    have e : upI (rhoC ρ (srcV A S)) (srcV A S).length (rhoC ρ (srcV A S) (srcV A S).length) = rhoC ρ (srcV A S) := by
      funext j
      unfold upI
      split
      · rename_i hj
        rw [hj]
      · rfl
    rw [e] at q2
    intro p hp
    have := q2 p hp
    rw [List.all_eq_true] at hid
    have hp1 := hid p hp
    obtain ⟨id, l⟩ := p
    match id, this, hp1 with
    | 0, this, _ => exact this
    | 1, _, hp1 => cases (show false = true from hp1)
    | id + 2, this, _ => exact this
  · obtain ⟨f1, f2, f3, f4⟩ := r.2.2.2.2.2.2
    have b1 := ble_iff.mp hao
    have b2 := ble_iff.mp has
    refine ⟨f1, f2, ?_, ?_⟩
    · show M.1 ≤ M0.1 + A.2.2.2.2.2.2.1.1
      omega
    · show M.2.1 ≤ M0.2.1 + A.2.2.2.2.2.2.1.2
      omega
end
/-! measures -/
abbrev MB : Nat := 10000000000
def numL : List Nat → Nat
  | [] => 0
  | x :: r => x * MB ^ r.length + numL r
def lexD : List Nat → List Nat → Prop
  | x :: a, y :: b => x < y ∨ (x = y ∧ lexD a b)
  | _, _ => False
theorem numL_lt : ∀ {l : List Nat}, (∀ x ∈ l, x < MB) → numL l < MB ^ l.length
  | [], _ => Nat.one_pos
  | x :: r, h => by
    have ih := numL_lt (l := r) fun y hy => h y (List.mem_cons_of_mem _ hy)
    have hx := h x List.mem_cons_self
    show x * MB ^ r.length + numL r < MB ^ (r.length + 1)
    rw [Nat.pow_succ]
    have : (x + 1) * MB ^ r.length ≤ MB * MB ^ r.length := Nat.mul_le_mul_right _ hx
    rw [Nat.add_mul, Nat.one_mul] at this
    rw [Nat.mul_comm (MB ^ r.length)]
    omega
theorem lexD_lt : ∀ {a b : List Nat}, lexD a b → a.length = b.length → (∀ x ∈ a, x < MB) → numL a < numL b
  | [], _, h, _, _ => h.elim
  | _ :: _, [], h, _, _ => h.elim
  | x :: a, y :: b, h, hl, hB => by
    have hl2 : a.length = b.length := Nat.succ.inj hl
    have hr := numL_lt (l := a) fun z hz => hB z (List.mem_cons_of_mem _ hz)
    show x * MB ^ a.length + numL a < y * MB ^ b.length + numL b
    rw [← hl2]
    rcases h with h | ⟨h, h2⟩
    · have : (x + 1) * MB ^ a.length ≤ y * MB ^ a.length := Nat.mul_le_mul_right _ h
      rw [Nat.add_mul, Nat.one_mul] at this
      omega
    · have ih := lexD_lt h2 hl2 fun z hz => hB z (List.mem_cons_of_mem _ hz)
      rw [h]
      omega
