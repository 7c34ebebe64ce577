/-! THE CHECKER: branches, cells, long numbers -/
section
variable {Y : Nat → TYE} {PS : PST} {dep : Nat → List EF} {E : List EF} {Γ0 : Nat → Nat} {M0 : MM} {d k : Nat} {Post : Option MV → MM → Prop} {go : GE} {n : Nat}
variable {pc len a1 a2 a3 : Nat} {i : Instr} {r : List OE} {S : SE}
abbrev S3T : Type := BC × Nat × List MFE × List PFE × Nat × Nat
/-- the fact that the field j of a place of the type τ is within bounds: (its number, [place, least, greatest]) -/
abbrev fId (τ j : Nat) : Nat := 1000 + 64 * τ + j
def PSfr (PS : PST) : Prop := ∀ (τ j a : Nat) (lo hi : Int) (Γ : Nat → Nat) (M : MM), j < 64 → PS (fId τ j) [vr a, vi lo, vi hi] Γ M → lo ≤ M.2.2.2.2 a j ∧ M.2.2.2.2 a j ≤ hi
def PSfw (PS : PST) : Prop := ∀ (τ j a : Nat) (lo hi : Int) (Γ : Nat → Nat) (M : MM), j < 64 → Γ a = τ → τ ≠ 0 → lo ≤ M.2.2.2.2 a j → M.2.2.2.2 a j ≤ hi → PS (fId τ j) [vr a, vi lo, vi hi] Γ M
/-- what a comparison tells of the numbers of pixels: fact 5 (chart, how many), fact 2 (chart, one of them) -/
def brQ (c : Jvm.ClassFile.Cond) (x y : AV) (S3 : S3T) : List PFE := match c with
  | .lt => cond (not (ltB (ivl S3.1 x).1 0)) (S3.2.2.2.1.filterMap fun p => match p.1, p.2 with
    | 5, [a, b] => cond (decide (b = y)) (some (2, [a, x])) none
    | _, _ => none) []
  | _ => []
/-- fact 21 (number, number): the first is less -/
def ltF (c : Jvm.ClassFile.Cond) (x y : AV) : List PFE := cond (Nat.beq x.1 0) [] (match c with
  | .ne => [(99, [x, y, (0, 0, 0, 0)])]
  | _ => cond (Nat.beq y.1 0) [] (match c with
    | .lt => [(21, [x, y])]
    | .gt => [(21, [y, x])]
    | .le => [(6, [x, y])]
    | .ge => [(6, [y, x])]
    | .ne => []
    | .eq => [(6, [x, y]), (6, [y, x])]))
/-- facts 811 to 816: a row of type 111 to 116 copied from one of 11 to 16; 821 to 826: the other way -/
def cpN (w v : Nat) : Nat := cond (Nat.beq w (v + 100) && (Nat.ble 11 v && Nat.ble v 16)) (800 + v) (cond (Nat.beq v (w + 100) && (Nat.ble 11 w && Nat.ble w 16)) (810 + w) 0)
theorem cpN_2 (w v : Nat) : cpN w v = 0 ∨ 2 ≤ cpN w v := by
  unfold cpN
  cases (Nat.beq w (v + 100) && (Nat.ble 11 v && Nat.ble v 16)) with
  | true =>
    rw [cond_true]
    exact Or.inr (by omega)
  | false =>
    rw [cond_false]
    cases (Nat.beq v (w + 100) && (Nat.ble 11 w && Nat.ble w 16)) with
    | true =>
      rw [cond_true]
      exact Or.inr (by omega)
    | false => exact Or.inl rfl
def PScp (PS : PST) : Prop := (∀ (a b : Nat) (n : Int) (Γ : Nat → Nat) (M : MM), (∀ j : Nat, (j : Int) < n → M.2.2.2.2 a j = M.2.2.2.2 b j) → cpN (Γ a) (Γ b) ≠ 0 → PS (cpN (Γ a) (Γ b)) [vr a, vr b, vi n] Γ M) ∧ (∀ (x : Int) (Γ : Nat → Nat) (M : MM), PS 717 [vi x, vi (abI x)] Γ M) ∧ ∀ (x y : Int) (Γ : Nat → Nat) (M : MM), PS 21 [vi x, vi y] Γ M → x < y
/-- facts 23 to 27, 80 to 85: what comes of two numbers -/
def PSdf (PS : PST) : Prop := PScp PS ∧ ∀ (x y : Int) (Γ : Nat → Nat) (M : MM), PS 23 [vi x, vi y, vi (wI (x + y))] Γ M ∧ PS 24 [vi x, vi y, vi (wI (x - y))] Γ M ∧ PS 25 [vi x, vi y, vi (wI (x * y))] Γ M ∧ PS 26 [vi x, vi y, vi (wI (x.tdiv y))] Γ M ∧ PS 27 [vi x, vi y, vi (x.tmod y)] Γ M ∧ PS 80 [vi x, vi y, vi (sHl x y)] Γ M ∧ PS 81 [vi x, vi y, vi (sHr x y)] Γ M ∧ PS 82 [vi x, vi y, vi (aNd x y)] Γ M ∧ PS 83 [vi x, vi y, vi (xOr x y)] Γ M ∧ PS 84 [vi x, vi y, vi (mxI x y)] Γ M ∧ PS 85 [vi x, vi y, vi (mnI x y)] Γ M ∧ PS 710 [vi x, vi y, vi (wL (x + y))] Γ M ∧ PS 711 [vi x, vi y, vi (wL (x - y))] Γ M ∧ PS 712 [vi x, vi y, vi (wL (x * y))] Γ M ∧ PS 713 [vi x, vi y, vi (wL (x.tdiv y))] Γ M ∧ PS 714 [vi x, vi y, vi (x.tmod y)] Γ M ∧ PS 715 [vi x, vi y, vi (lCm x y)] Γ M ∧ PS 716 [vi x, vi (wI x)] Γ M
def brP (c : Jvm.ClassFile.Cond) (x y : AV) (S3 : S3T) : List PFE := ltF c x y ++ brQ c x y S3
def PSbr (PS : PST) : Prop := (∀ (a : MV) (x y : Int) (Γ : Nat → Nat) (M : MM), PS 5 [a, vi y] Γ M → 0 ≤ x → x < y → PS 2 [a, vi x] Γ M) ∧ (∀ (x y : Int) (Γ : Nat → Nat) (M : MM), x < y → PS 21 [vi x, vi y] Γ M) ∧ (∀ (x y : Int) (Γ : Nat → Nat) (M : MM), x ≤ y → PS 6 [vi x, vi y] Γ M) ∧ ∀ (x y : Int) (Γ : Nat → Nat) (M : MM), x ≠ y → PS 99 [vi x, vi y, vi 0] Γ M
theorem brP_ok (hB : PSbr PS) {c : Jvm.ClassFile.Cond} {x y : AV} {S3 : S3T} {ρ : Nat → Int} {α Γ : Nat → Nat} {M : MM} (hC : BO ρ S3.1) (hx : isI x = true) (hy : isI y = true) (hm : cmI c (iv ρ x) (iv ρ y)) (r : PFs PS ρ α Γ M S3.2.2.2.1) : PFs PS ρ α Γ M (brP c x y S3 ++ S3.2.2.2.1) := by
  intro p hp
  rcases List.mem_append.mp hp with hp | hp
  · rcases List.mem_append.mp (show p ∈ ltF c x y ++ brQ c x y S3 from hp) with hp | hp
    · unfold ltF at hp
      cases hz : Nat.beq x.1 0 with
      | true => rw [hz, cond_true] at hp; exact absurd hp List.not_mem_nil
      | false =>
        rw [hz, cond_false] at hp
        have key : ∀ {l : List PFE}, p ∈ cond (Nat.beq y.1 0) [] l → p ∈ l := fun {l} h => by
          cases hy0 : Nat.beq y.1 0 with
          | true => rw [hy0, cond_true] at h; exact absurd h List.not_mem_nil
          | false => rw [hy0, cond_false] at h; exact h
        cases c with
        | lt =>
          cases List.mem_singleton.mp (show p ∈ [(21, [x, y])] from key hp)
          show PS 21 [valO ρ α x, valO ρ α y] Γ M
          rw [valO_int hx, valO_int hy]
          exact hB.2.1 _ _ _ _ hm
        | gt =>
          cases List.mem_singleton.mp (show p ∈ [(21, [y, x])] from key hp)
          show PS 21 [valO ρ α y, valO ρ α x] Γ M
          rw [valO_int hx, valO_int hy]
          exact hB.2.1 _ _ _ _ hm
        | le =>
          cases List.mem_singleton.mp (show p ∈ [(6, [x, y])] from key hp)
          show PS 6 [valO ρ α x, valO ρ α y] Γ M
          rw [valO_int hx, valO_int hy]
          exact hB.2.2.1 _ _ _ _ hm
        | ge =>
          cases List.mem_singleton.mp (show p ∈ [(6, [y, x])] from key hp)
          show PS 6 [valO ρ α y, valO ρ α x] Γ M
          rw [valO_int hx, valO_int hy]
          exact hB.2.2.1 _ _ _ _ hm
        | ne =>
          cases List.mem_singleton.mp (show p ∈ [(99, [x, y, (0, 0, 0, 0)])] from hp)
          show PS 99 [valO ρ α x, valO ρ α y, vi 0] Γ M
          rw [valO_int hx, valO_int hy]
          exact hB.2.2.2 _ _ _ _ hm
        | eq =>
          rcases List.mem_cons.mp (show p ∈ [(6, [x, y]), (6, [y, x])] from key hp) with rfl | hp
          · show PS 6 [valO ρ α x, valO ρ α y] Γ M
            rw [valO_int hx, valO_int hy]
            exact hB.2.2.1 _ _ _ _ (Int.le_of_eq hm)
          · cases List.mem_singleton.mp hp
            show PS 6 [valO ρ α y, valO ρ α x] Γ M
            rw [valO_int hx, valO_int hy]
            exact hB.2.2.1 _ _ _ _ (Int.le_of_eq (show iv ρ x = iv ρ y from hm).symm)
    · unfold brQ at hp
      split at hp
      · cases hl : not (ltB (ivl S3.1 x).1 0) with
        | false => rw [hl, cond_false] at hp; exact absurd hp List.not_mem_nil
        | true =>
          rw [hl, cond_true] at hp
          rw [Bool.not_eq_true', ltB_f] at hl
          obtain ⟨q, hq, hq2⟩ := List.mem_filterMap.mp hp
          split at hq2
          · rename_i a b h5 hl2
            cases hd : decide (b = y) with
            | false => rw [hd, cond_false] at hq2; cases hq2
            | true =>
              rw [hd, cond_true] at hq2
              cases hq2
              have hb := of_decide_eq_true hd
              subst hb
              have q5 := r q hq
              rw [h5, hl2] at q5
              have q5 : PS 5 [valO ρ α a, valO ρ α b] Γ M := q5
              rw [valO_int hy] at q5
              have hi := ivl_ok hC hx
              show PS 2 [valO ρ α a, valO ρ α x] Γ M
              rw [valO_int hx]
              exact hB.1 _ _ _ _ _ q5 (by omega) hm
          · cases hq2
      · exact absurd hp List.not_mem_nil
  · exact r p hp
def wbr (c : Jvm.ClassFile.Cond) (x y : AV) (S3 : S3T) : S3T := (rfE c S3.1 x y, S3.2.1, S3.2.2.1, brP c x y S3 ++ S3.2.2.2.1, S3.2.2.2.2)
def e_br (c : Jvm.ClassFile.Cond) (a1 : Nat) (x y : AV) (ls t : List AV) (S3 : S3T) (go : GE) (n : Nat) : Bool :=
  cond (Nat.beq x.1 0 && Nat.beq y.1 0) (cond (cmB c x.2.2.2 y.2.2.2) (go a1 (ls, t, S3)) (go (n + 1) (ls, t, S3)))
    ((emB (rfE c S3.1 x y) || go a1 (ls, t, wbr c x y S3)) && (emB (rfE (ncd c) S3.1 x y) || go (n + 1) (ls, t, wbr (ncd c) x y S3)))
theorem br_okE (hB : PSbr PS) {c : Jvm.ClassFile.Cond} {x y : AV} {ls t : List AV} {S3 : S3T} {ρ : Nat → Int} {α Γ : Nat → Nat} {M : MM} {ls2 t2 : List MV} (h : e_br c a1 x y ls t S3 go n = true) (hx : isI x = true) (hy : isI y = true) (r : REL Y PS E Γ0 M0 ρ α Γ M (ls, t, S3) ls2 t2) :
    (cmI c (iv ρ x) (iv ρ y) ∧ ∃ S1, go a1 S1 = true ∧ REL Y PS E Γ0 M0 ρ α Γ M S1 ls2 t2) ∨ (¬ cmI c (iv ρ x) (iv ρ y) ∧ ∃ S1, go (n + 1) S1 = true ∧ REL Y PS E Γ0 M0 ρ α Γ M S1 ls2 t2) := by
  unfold e_br at h
  cases hc : (Nat.beq x.1 0 && Nat.beq y.1 0) with
  | true =>
    rw [hc, cond_true] at h
    obtain ⟨c1, c2⟩ := bb2 hc
    rw [iv_c c1, iv_c c2]
    cases hm : cmB c x.2.2.2 y.2.2.2 with
    | true =>
      rw [hm, cond_true] at h
      exact Or.inl ⟨(cmB_iff _ _ _).mp hm, _, h, r⟩
    | false =>
      rw [hm, cond_false] at h
      exact Or.inr ⟨fun q => (by rw [(cmB_iff _ _ _).mpr q] at hm; cases hm), _, h, r⟩
  | false =>
    rw [hc, cond_false] at h
    obtain ⟨h1, h2⟩ := bb2 h
    by_cases hm : cmI c (iv ρ x) (iv ρ y)
    · refine Or.inl ⟨hm, ?_⟩
      have hb := rfE_ok r.2.1 hx hy hm
      rw [emB_ok hb, Bool.false_or] at h1
      exact ⟨_, h1, r.1, hb, r.2.2.1, r.2.2.2.1, r.2.2.2.2.1, brP_ok hB r.2.1 hx hy hm r.2.2.2.2.2.1, r.2.2.2.2.2.2⟩
    · refine Or.inr ⟨hm, ?_⟩
      have hb := rfE_ok r.2.1 hx hy (ncd_ok hm)
      rw [emB_ok hb, Bool.false_or] at h2
      exact ⟨_, h2, r.1, hb, r.2.2.1, r.2.2.2.1, r.2.2.2.2.1, brP_ok hB r.2.1 hx hy (ncd_ok hm) r.2.2.2.2.2.1, r.2.2.2.2.2.2⟩
def e_icmp (c : Jvm.ClassFile.Cond) (a1 : Nat) (go : GE) (n : Nat) (S : SE) : Bool := match S.2.1 with
  | y :: x :: t => (isI y && isI x) && e_br c a1 x y S.1 t S.2.2 go n
  | _ => false
theorem q_icmp (hB : PSbr PS) {c : Jvm.ClassFile.Cond} {off : Int} (Q : SQ Y PS E Γ0 M0 d k Post go n (pc, .if_icmp c off, len, a1, a2, a3) r) (hl : len = 3) (ht : tgB pc off (dropN a1 (ops k)) = true) (h : e_icmp c a1 go n S = true) : TRU Y PS E Γ0 M0 d k Post pc S := by
  subst hl
  obtain ⟨ls, st, S3⟩ := S
  intro ρ α Γ M ls2 st2 r
  match st, h, r with
  | [], h, _ => cases h
  | [_], h, _ => cases h
  | y :: x :: t, h, r =>
    obtain ⟨h1, h2⟩ := bb2 (show ((isI y && isI x) && e_br c a1 x y ls t S3 go n) = true from h)
    obtain ⟨h3, h4⟩ := bb2 h1
    obtain ⟨my, t1, rfl, h5, h6⟩ := ARs.cons r.2.2.2.1
    obtain ⟨mx, t2, rfl, h7, h8⟩ := ARs.cons h6
    cases h5.int h3
    cases h7.int h4
    obtain ⟨tgt, q1, q2⟩ := Q.goto ht
    refine g_icmp Q.row.1 q1 ?_
    rcases br_okE hB h2 h4 h3 ⟨r.1, r.2.1, r.2.2.1, h8, r.2.2.2.2⟩ with ⟨hm, S1, g1, g2⟩ | ⟨hm, S1, g1, g2⟩
    · exact Or.inl ⟨hm, q2 g1 ρ α Γ M ls2 t2 g2⟩
    · exact Or.inr ⟨hm, Q.next g1 ρ α Γ M ls2 t2 g2⟩
def e_if (c : Jvm.ClassFile.Cond) (a1 : Nat) (go : GE) (n : Nat) (S : SE) : Bool := match S.2.1 with
  | x :: t => isI x && e_br c a1 x (aC 0) S.1 t S.2.2 go n
  | _ => false
theorem q_if (hB : PSbr PS) {c : Jvm.ClassFile.Cond} {off : Int} (Q : SQ Y PS E Γ0 M0 d k Post go n (pc, .ifCond c off, len, a1, a2, a3) r) (hl : len = 3) (ht : tgB pc off (dropN a1 (ops k)) = true) (h : e_if c a1 go n S = true) : TRU Y PS E Γ0 M0 d k Post pc S := by
  subst hl
  obtain ⟨ls, st, S3⟩ := S
  intro ρ α Γ M ls2 st2 r
  match st, h, r with
  | [], h, _ => cases h
  | x :: t, h, r =>
    obtain ⟨h4, h2⟩ := bb2 (show (isI x && e_br c a1 x (aC 0) ls t S3 go n) = true from h)
    obtain ⟨mx, t2, rfl, h7, h8⟩ := ARs.cons r.2.2.2.1
    cases h7.int h4
    obtain ⟨tgt, q1, q2⟩ := Q.goto ht
    refine g_if Q.row.1 q1 ?_
    rcases br_okE hB h2 h4 rfl ⟨r.1, r.2.1, r.2.2.1, h8, r.2.2.2.2⟩ with ⟨hm, S1, g1, g2⟩ | ⟨hm, S1, g1, g2⟩
    · exact Or.inl ⟨hm, q2 g1 ρ α Γ M ls2 t2 g2⟩
    · exact Or.inr ⟨hm, Q.next g1 ρ α Γ M ls2 t2 g2⟩
theorem q_goto {off : Int} (Q : SQ Y PS E Γ0 M0 d k Post go n (pc, .goto off, len, a1, a2, a3) r) (hl : len = 3) (ht : tgB pc off (dropN a1 (ops k)) = true) (h : go a1 S = true) : TRU Y PS E Γ0 M0 d k Post pc S := by
  subst hl
  intro ρ α Γ M ls2 st2 r
  obtain ⟨tgt, q1, q2⟩ := Q.goto ht
  obtain ⟨s0, u0, K, R, I⟩ := M
  exact s_goto tgt Q.row.1 q1 (q2 h ρ α Γ _ ls2 st2 r)
/-! cells -/
def avEq (v w : AV) : Bool := Nat.beq v.1 w.1 && (Nat.beq v.2.1 w.2.1 && eqB v.2.2.2 w.2.2.2)
theorem avEq_iv {ρ : Nat → Int} {v w : AV} (h : avEq v w = true) : iv ρ v = iv ρ w := by
  obtain ⟨h1, h2⟩ := bb2 h
  obtain ⟨h2, h3⟩ := bb2 h2
  rw [eqB_iff] at h3
  unfold iv
  rw [beq_iff.mp h1, beq_iff.mp h2, h3]
def sameN (v w : AV) : Bool := Nat.beq v.1 w.1 && Nat.beq v.2.1 w.2.1
theorem sameN_iv {ρ : Nat → Int} {v w : AV} (h : sameN v w = true) : iv ρ w - iv ρ v = w.2.2.2 - v.2.2.2 := by
  obtain ⟨h1a, h2a⟩ := bb2 h
  obtain ⟨t, i, a, c⟩ := v
  obtain ⟨t2, i2, a2, c2⟩ := w
  have h1 : t = t2 := beq_iff.mp h1a
  have h2 : i = i2 := beq_iff.mp h2a
  subst h1
  subst h2
  match t with
  | 0 => rfl
  | t + 1 =>
    show ρ i + c2 - (ρ i + c) = c2 - c
    omega
def fdM (MF : List MFE) (a : Nat) (idx : AV) : Option AV := match MF.find? fun f => Nat.beq f.1 a && avEq f.2.2.1 idx with
  | some f => some f.2.2.2
  | none => none
theorem fdM_ok {ρ : Nat → Int} {α Γ : Nat → Nat} {M : MM} {MF : List MFE} {a : Nat} {idx w : AV} (hM : MFs ρ α Γ M MF) (h : fdM MF a idx = some w) :
    (isI w = true ∧ M.2.2.2.2 (α a) (iv ρ idx).toNat = iv ρ w) ∨ (isI w = false ∧ AR ρ α Γ w (vq (M.2.2.2.1 (α a) (iv ρ idx).toNat))) := by
  unfold fdM at h
  split at h
  · rename_i f hf
    cases h
    have hm := List.mem_of_find?_eq_some hf
    have hb := List.find?_some hf
    obtain ⟨b1, b2⟩ := bb2 hb
    have h5 := (hM f hm).2.2.2.2
    rw [beq_iff.mp b1, avEq_iv b2] at h5
    exact h5
  · cases h
def rdR (T : TYE) (lo hi : Nat) : Option (Nat × Bool) := match T.2.2.2.find? fun r => Nat.ble r.1 lo && Nat.ble hi r.2.1 with
  | some r => some r.2.2
  | none => none
theorem rdR_ok {Γ : Nat → Nat} {M : MM} {a j lo hi : Nat} {p : Nat × Bool} (hT : HTy Y Γ M) (h0 : Γ a ≠ 0) (h : rdR (Y (Γ a)) lo hi = some p) (h1 : lo ≤ j) (h2 : j < hi) : (M.2.2.2.1 a j = none ∧ p.2 = true) ∨ ∃ b, M.2.2.2.1 a j = some b ∧ Γ b = p.1 ∧ p.1 ≠ 0 := by
  unfold rdR at h
  split at h
  · rename_i r hr
    cases h
    have hm := List.mem_of_find?_eq_some hr
    have hb := List.find?_some hr
    rw [Bool.and_eq_true, ble_iff, ble_iff] at hb
    exact (hT a h0).2.2.2 r hm j (by omega) (by omega)
  · cases h
theorem AR.ref {ρ : Nat → Int} {α Γ : Nat → Nat} {v : AV} {m : MV} (h : v.1 = 2) (r : AR ρ α Γ v m) : m = vr (α v.2.1) ∧ Γ (α v.2.1) = v.2.2.1 ∧ v.2.2.1 ≠ 0 := by
  unfold AR at r
  rw [h] at r
  exact r
/-- bounds that the facts give of the cell idx of v -/
def frB (PF : List PFE) (v idx : AV) (p : Int × Int) : Int × Int := match PF.find? fun q => Nat.beq q.1 (fId v.2.2.1 idx.2.2.2.toNat) && (match q.2 with
    | [a, l, h] => (Nat.beq a.1 2 && Nat.beq a.2.1 v.2.1) && (Nat.beq l.1 0 && Nat.beq h.1 0)
    | _ => false) with
  | some q => (match q.2 with
    | [_, l, h] => cond (Nat.beq idx.1 0 && (ltB idx.2.2.2 64 && not (ltB idx.2.2.2 0))) (mxB p.1 l.2.2.2, mnB p.2 h.2.2.2) p
    | _ => p)
  | none => p
theorem frB_ok (hR : PSfr PS) {PF : List PFE} {v idx : AV} {p : Int × Int} {ρ : Nat → Int} {α Γ : Nat → Nat} {M : MM} (r : PFs PS ρ α Γ M PF) (h1 : p.1 ≤ M.2.2.2.2 (α v.2.1) (iv ρ idx).toNat) (h2 : M.2.2.2.2 (α v.2.1) (iv ρ idx).toNat ≤ p.2) : (frB PF v idx p).1 ≤ M.2.2.2.2 (α v.2.1) (iv ρ idx).toNat ∧ M.2.2.2.2 (α v.2.1) (iv ρ idx).toNat ≤ (frB PF v idx p).2 := by
  unfold frB
  split
  · rename_i q hq
    have hm := List.mem_of_find?_eq_some hq
    have hb := List.find?_some hq
    split
    · rename_i a l h hl
      cases hc : (Nat.beq idx.1 0 && (ltB idx.2.2.2 64 && not (ltB idx.2.2.2 0))) with
      | false => exact ⟨h1, h2⟩
      | true =>
        rw [cond_true]
        obtain ⟨c1, c2⟩ := bb2 hc
        obtain ⟨c2, c3⟩ := bb2 c2
        rw [ltB_iff] at c2
        rw [Bool.not_eq_true', ltB_f] at c3
        have hb : (Nat.beq q.1 (fId v.2.2.1 idx.2.2.2.toNat) && (match q.2 with
          | [a, l, h] => (Nat.beq a.1 2 && Nat.beq a.2.1 v.2.1) && (Nat.beq l.1 0 && Nat.beq h.1 0)
          | _ => false)) = true := hb
        rw [hl] at hb
        obtain ⟨b1, b2⟩ := bb2 hb
        obtain ⟨b2, b3⟩ := bb2 b2
        obtain ⟨b2, b4⟩ := bb2 b2
        obtain ⟨b3, b5⟩ := bb2 b3
        have q5 := r q hm
        rw [hl, beq_iff.mp b1] at q5
        have e1 : valO ρ α a = vr (α v.2.1) := by rw [valO_ref (beq_iff.mp b2), beq_iff.mp b4]
        have e2 : valO ρ α l = vi l.2.2.2 := valO_c (beq_iff.mp b3)
        have e3 : valO ρ α h = vi h.2.2.2 := valO_c (beq_iff.mp b5)
        have q5 : PS (fId v.2.2.1 idx.2.2.2.toNat) [valO ρ α a, valO ρ α l, valO ρ α h] Γ M := q5
        rw [e1, e2, e3] at q5
        have q6 := hR _ _ _ _ _ _ _ (by omega) q5
        rw [iv_c c1] at h1 h2 ⊢
        exact ⟨mxB_le h1 q6.1, le_mnB h2 q6.2⟩
    · exact ⟨h1, h2⟩
  · exact ⟨h1, h2⟩
/-- fact 7 (type, cell, number): the number is within the bounds of such a cell -/
def PSty (Y : Nat → TYE) (PS : PST) : Prop := ∀ (τ i x : Int) (Γ : Nat → Nat) (M : MM), PS 7 [vi τ, vi i, vi x] Γ M ↔ (0 ≤ τ ∧ ∀ r ∈ (Y τ.toNat).2.2.1, (r.1 : Int) ≤ i → i < (r.2.1 : Int) → r.2.2.1 ≤ x ∧ x ≤ r.2.2.2)
def tyF (Y : Nat → TYE) (τ : Nat) (idx w : AV) (lo hi : Nat) : List PFE := cond (Nat.ble 2 (Y τ).2.2.1.length && Nat.ble (lo + 2) hi) [(7, [aC (Int.ofNat τ), idx, w])] []
/-- reads a number at one of the cells lo .. hi of r -/
def e_rdI (Y : Nat → TYE) (idx : AV) (lo hi : Nat) (v : AV) (t : List AV) (go : GE) (n : Nat) (S : SE) : Bool := match fdM S.2.2.2.2.1 v.2.1 idx with
  | some w => isI w && go (n + 1) (S.1, w :: t, S.2.2)
  | none => (match rdI (Y v.2.2.1) lo hi with
    | some p => nfI S.2.2.1.length idx && nmI (frB S.2.2.2.2.2.1 v idx p) S (fun w S2 => go (n + 1) (S.1, w :: t, S2.2.2.1, S.2.2.2.1, (v.2.1, v.2.2.1, idx, w) :: S.2.2.2.2.1, tyF Y v.2.2.1 idx w lo hi ++ S.2.2.2.2.2.1, S.2.2.2.2.2.2))
    | none => false)
theorem rdI_go (hR : PSfr PS) (hTy : PSty Y PS) {idx v : AV} {lo hi : Nat} {ls t st : List AV} {S3 : S3T} {ρ : Nat → Int} {α Γ : Nat → Nat} {M : MM} {ls2 st2 t2 : List MV} (h : e_rdI Y idx lo hi v t go n (ls, st, S3) = true) (hv : v.1 = 2) (hΓ : Γ (α v.2.1) = v.2.2.1 ∧ v.2.2.1 ≠ 0) (hi2 : isI idx = true) (h0 : 0 ≤ iv ρ idx) (h1 : lo ≤ (iv ρ idx).toNat) (h2 : (iv ρ idx).toNat < hi) (r : REL Y PS E Γ0 M0 ρ α Γ M (ls, st, S3) ls2 st2) (ht : ∀ ρ2, ARs ρ2 α Γ st st2 → ARs ρ2 α Γ t t2) :
    ∃ ρ2 S1, go (n + 1) S1 = true ∧ REL Y PS E Γ0 M0 ρ2 α Γ M S1 ls2 (vi (M.2.2.2.2 (α v.2.1) (iv ρ idx).toNat) :: t2) := by
  unfold e_rdI at h
  split at h
  · rename_i w hw
    obtain ⟨w1, w2⟩ := bb2 h
    rcases fdM_ok r.2.2.2.2.1 hw with ⟨-, q2⟩ | ⟨q1, -⟩
    · refine ⟨ρ, _, w2, r.1, r.2.1, r.2.2.1, ⟨?_, ht ρ r.2.2.2.1⟩, r.2.2.2.2⟩
      rw [q2]
      exact AR.ofI w1
    · rw [w1] at q1; cases q1
  · split at h
    · rename_i p hp
      obtain ⟨n1, n2⟩ := bb2 h
      have hb := rdI_ok (a := α v.2.1) (j := (iv ρ idx).toNat) r.1 (by rw [hΓ.1]; exact hΓ.2) (by rw [hΓ.1]; exact hp) h1 h2
      have hb := frB_ok hR (v := v) (idx := idx) r.2.2.2.2.2.1 hb.1 hb.2
      obtain ⟨ρ2, w, S2, b1, b2, b3, b4, b5, b6, b7⟩ := nmI_ok n2 r hb.1 hb.2
      subst b4
      have e := b6 idx n1 hi2
      refine ⟨ρ2, _, b1, b7.1, b7.2.1, b7.2.2.1, ⟨?_, ht ρ2 b7.2.2.2.1⟩, fun f hf => ?_, fun p hp => ?_, b7.2.2.2.2.2.2⟩
      · rw [← b3]; exact AR.ofI b2
      · rcases List.mem_cons.mp hf with rfl | hf
        · exact ⟨hΓ.1, hΓ.2, hi2, by rw [e]; exact h0, Or.inl ⟨b2, by rw [e]; exact b3.symm⟩⟩
        · exact b7.2.2.2.2.1 f hf
      · rcases List.mem_append.mp (show p ∈ tyF Y v.2.2.1 idx w lo hi ++ S3.2.2.2.1 from hp) with h9 | h9
        · unfold tyF at h9
          cases hc : (Nat.ble 2 (Y v.2.2.1).2.2.1.length && Nat.ble (lo + 2) hi) with
          | false => rw [hc, cond_false] at h9; exact absurd h9 List.not_mem_nil
          | true =>
            rw [hc, cond_true] at h9
            cases List.mem_singleton.mp h9
            show PS 7 [valO ρ2 α (aC (Int.ofNat v.2.2.1)), valO ρ2 α idx, valO ρ2 α w] Γ M
            rw [valO_int hi2, valO_int b2, b3, e]
            refine (hTy _ _ _ _ _).mpr ⟨Int.natCast_nonneg _, fun r0 hr q1 q2 => ?_⟩
            have hr : r0 ∈ (Y v.2.2.1).2.2.1 := hr
            rw [← hΓ.1] at hr
            exact (r.1 (α v.2.1) (by rw [hΓ.1]; exact hΓ.2)).2.2.1 r0 hr _ (by omega) (by omega)
        · exact b7.2.2.2.2.2.1 p h9
    · cases h
def e_getI (Y : Nat → TYE) (c j : Nat) (go : GE) (n : Nat) (S : SE) : Bool := match S.2.1 with
  | v :: t => (Nat.beq v.1 2 && (Nat.beq (Y v.2.2.1).1 c && Nat.beq (Y v.2.2.1).2.1 0)) && e_rdI Y (aC (Int.ofNat j)) j (j + 1) v t go n S
  | [] => false
theorem q_getI (hR : PSfr PS) (hTy : PSty Y PS) {idx c j g : Nat} (Q : SQ Y PS E Γ0 M0 d k Post go n (pc, .getfield idx, 3, g, c, j) r) (hp : pool (mcls k) idx = some (g, c, j)) (hg : g = 1 ∨ g = 2) (h : e_getI Y c j go n S = true) : TRU Y PS E Γ0 M0 d k Post pc S := by
  obtain ⟨ls, st, S3⟩ := S
  intro ρ α Γ M ls2 st2 r
  match st, h, r with
  | [], h, _ => cases h
  | v :: t, h, r =>
    obtain ⟨h1, h2⟩ := bb2 (show ((Nat.beq v.1 2 && (Nat.beq (Y v.2.2.1).1 c && Nat.beq (Y v.2.2.1).2.1 0)) && e_rdI Y (aC (Int.ofNat j)) j (j + 1) v t go n (ls, v :: t, S3)) = true from h)
    obtain ⟨h1, h3⟩ := bb2 h1
    obtain ⟨h3, h4⟩ := bb2 h3
    obtain ⟨mv, t2, rfl, h5, h6⟩ := ARs.cons r.2.2.2.1
    obtain ⟨rfl, g1, g2⟩ := h5.ref (beq_iff.mp h1)
    have hK := KD_l (r.1 (α v.2.1) (by rw [g1]; exact g2)).2.1 (by rw [g1, beq_iff.mp h4]; decide)
    rw [g1, beq_iff.mp h3, beq_iff.mp h4] at hK
    obtain ⟨ρ2, S1, b1, b2⟩ := rdI_go hR hTy (t2 := t2) h2 (beq_iff.mp h1) ⟨g1, g2⟩ rfl (show (0 : Int) ≤ Int.ofNat j from Int.natCast_nonneg _) (Nat.le_refl _) (Nat.lt_succ_self _) r (fun ρ2 q => q.2)
    obtain ⟨s0, u0, K, R, I⟩ := M
    rcases hg with rfl | rfl
    · exact s_getI Q.row.1 hp hK rfl (Q.next b1 ρ2 α Γ _ ls2 _ b2)
    · exact s_getZ Q.row.1 hp hK rfl (Q.next b1 ρ2 α Γ _ ls2 _ b2)
def e_getR (Y : Nat → TYE) (c j : Nat) (go : GE) (n : Nat) (S : SE) : Bool := match S.2.1 with
  | v :: t => (Nat.beq v.1 2 && (Nat.beq (Y v.2.2.1).1 c && Nat.beq (Y v.2.2.1).2.1 0)) && (match fdM S.2.2.2.2.1 v.2.1 (aC (Int.ofNat j)) with
    | some w => not (isI w) && go (n + 1) (S.1, w :: t, S.2.2)
    | none => (match rdR (Y v.2.2.1) j (j + 1) with
      | some p => frR S.2.2.2.1 S && go (n + 1) (S.1, (cond p.2 3 2, S.2.2.2.1, p.1, 0) :: t, S.2.2.1, S.2.2.2.1 + 1, (v.2.1, v.2.2.1, aC (Int.ofNat j), (cond p.2 3 2, S.2.2.2.1, p.1, 0)) :: S.2.2.2.2.1, S.2.2.2.2.2)
      | none => false))
  | [] => false
theorem REL_upA {ρ : Nat → Int} {α Γ : Nat → Nat} {M : MM} {ls2 st2 : List MV} {m b : Nat} (h : frR m S = true) (r : REL Y PS E Γ0 M0 ρ α Γ M S ls2 st2) : REL Y PS E Γ0 M0 ρ (upA α m b) Γ M S ls2 st2 := by
  obtain ⟨f1, f2⟩ := bb2 h
  obtain ⟨f2, f3⟩ := bb2 f2
  obtain ⟨f3, f4⟩ := bb2 f3
  rw [List.all_eq_true] at f1 f2 f3 f4
  obtain ⟨r1, r2, r3, r4, r5, r6, r7⟩ := r
  refine ⟨r1, r2, r3.imp fun v hv m => (AR_upA (f1 v hv) m).mpr, r4.imp fun v hv m => (AR_upA (f2 v hv) m).mpr, fun f hf => ?_, fun f hf => ?_, r7⟩
  · obtain ⟨g1, g2⟩ := bb2 (f3 f hf)
    have e : upA α m b f.1 = α f.1 := by
      rw [Bool.not_eq_true'] at g1
      show (if f.1 = m then b else α f.1) = α f.1
      rw [if_neg (fun q => by rw [beq_iff.mpr q] at g1; cases g1)]
    obtain ⟨a1, a2, a3, a4, a5⟩ := r5 f hf
    refine ⟨by rw [e]; exact a1, a2, a3, a4, ?_⟩
    rw [e]
    rcases a5 with ⟨b1, b2⟩ | ⟨b1, b2⟩
    · exact Or.inl ⟨b1, b2⟩
    · exact Or.inr ⟨b1, (AR_upA g2 _).mpr b2⟩
  · have h9 := r6 f hf
    have e : f.2.map (valO ρ (upA α m b)) = f.2.map (valO ρ α) := by
      apply List.map_congr_left
      intro v hv
      have := f4 f hf
      rw [List.all_eq_true] at this
      exact valO_upA (this v hv)
    show PS f.1 (f.2.map (valO ρ (upA α m b))) Γ M
    rw [show f.2.map (valO ρ (upA α m b)) = f.2.map (valO ρ α) from e]
    exact h9
theorem q_getR {idx c j : Nat} (Q : SQ Y PS E Γ0 M0 d k Post go n (pc, .getfield idx, 3, 3, c, j) r) (hp : pool (mcls k) idx = some (3, c, j)) (h : e_getR Y c j go n S = true) : TRU Y PS E Γ0 M0 d k Post pc S := by
  obtain ⟨ls, st, S3⟩ := S
  intro ρ α Γ M ls2 st2 r
  match st, h, r with
  | [], h, _ => cases h
  | v :: t, h, r =>
    obtain ⟨h1, h2⟩ := bb2 (show ((Nat.beq v.1 2 && (Nat.beq (Y v.2.2.1).1 c && Nat.beq (Y v.2.2.1).2.1 0)) && (match fdM S3.2.2.1 v.2.1 (aC (Int.ofNat j)) with
      | some w => not (isI w) && go (n + 1) (ls, w :: t, S3)
      | none => (match rdR (Y v.2.2.1) j (j + 1) with
        | some p => frR S3.2.1 (ls, v :: t, S3) && go (n + 1) (ls, (cond p.2 3 2, S3.2.1, p.1, 0) :: t, S3.1, S3.2.1 + 1, (v.2.1, v.2.2.1, aC (Int.ofNat j), (cond p.2 3 2, S3.2.1, p.1, 0)) :: S3.2.2.1, S3.2.2.2)
        | none => false))) = true from h)
    obtain ⟨h1, h3⟩ := bb2 h1
    obtain ⟨h3, h4⟩ := bb2 h3
    obtain ⟨mv, t2, rfl, h5, h6⟩ := ARs.cons r.2.2.2.1
    obtain ⟨rfl, g1, g2⟩ := h5.ref (beq_iff.mp h1)
    have hK := KD_l (r.1 (α v.2.1) (by rw [g1]; exact g2)).2.1 (by rw [g1, beq_iff.mp h4]; decide)
    rw [g1, beq_iff.mp h3, beq_iff.mp h4] at hK
    have e0 : (iv ρ (aC (Int.ofNat j))).toNat = j := rfl
    split at h2
    · rename_i w hw
      obtain ⟨w1, w2⟩ := bb2 h2
      rcases fdM_ok r.2.2.2.2.1 hw with ⟨q1, -⟩ | ⟨-, q2⟩
      · rw [q1] at w1; cases w1
      · rw [e0] at q2
        obtain ⟨s0, u0, K, R, I⟩ := M
        exact s_getQ Q.row.1 hp hK rfl (Q.next w2 ρ α Γ _ ls2 _ ⟨r.1, r.2.1, r.2.2.1, ⟨q2, h6⟩, r.2.2.2.2⟩)
    · split at h2
      · rename_i p hp2
        obtain ⟨n1, n2⟩ := bb2 h2
        have hb := rdR_ok (a := α v.2.1) (j := j) r.1 (by rw [g1]; exact g2) (by rw [g1]; exact hp2) (Nat.le_refl _) (Nat.lt_succ_self _)
        -- the new name stands for what lies there
        have key : ∃ b, AR ρ (upA α S3.2.1 b) Γ (cond p.2 3 2, S3.2.1, p.1, 0) (vq (M.2.2.2.1 (α v.2.1) j)) := by
          rcases hb with ⟨q1, q2⟩ | ⟨b, q1, q2, q3⟩
          · refine ⟨0, ?_⟩
            rw [q1, q2]
            exact Or.inl rfl
          · refine ⟨b, ?_⟩
            rw [q1]
            have e : upA α S3.2.1 b S3.2.1 = b := by show (if S3.2.1 = S3.2.1 then b else _) = b; rw [if_pos rfl]
            cases p.2 with
            | true => exact Or.inr ⟨by show (vr b : MV) = vr (upA α S3.2.1 b S3.2.1); rw [e], by show Γ (upA α S3.2.1 b S3.2.1) = p.1; rw [e]; exact q2, q3⟩
            | false => exact ⟨by show (vr b : MV) = vr (upA α S3.2.1 b S3.2.1); rw [e], by show Γ (upA α S3.2.1 b S3.2.1) = p.1; rw [e]; exact q2, q3⟩
        obtain ⟨b, hAR⟩ := key
        have r2 := REL_upA (b := b) n1 r
        have ev : upA α S3.2.1 b v.2.1 = α v.2.1 := by
          have := (ARs.cons r2.2.2.2.1)
          obtain ⟨m9, t9, e9, h9, -⟩ := this
          cases e9
          have := (h9.ref (beq_iff.mp h1)).1
          exact (Option.some.inj (Sum.inr.inj (Sum.inr.inj this))).symm
        have hni : isI (cond p.2 3 2, S3.2.1, p.1, 0) = false := by cases p.2 <;> rfl
        have R := Q.next n2 ρ (upA α S3.2.1 b) Γ M ls2 (vq (M.2.2.2.1 (α v.2.1) j) :: t2) ⟨r2.1, r2.2.1, r2.2.2.1, ⟨hAR, r2.2.2.2.1.2⟩, fun f hf => (by
          rcases List.mem_cons.mp hf with rfl | hf
          · refine ⟨by show Γ (upA α S3.2.1 b v.2.1) = _; rw [ev]; exact g1, g2, rfl, Int.natCast_nonneg _, Or.inr ⟨hni, ?_⟩⟩
            show AR ρ (upA α S3.2.1 b) Γ _ (vq (M.2.2.2.1 (upA α S3.2.1 b v.2.1) (iv ρ (aC (Int.ofNat j))).toNat))
            rw [ev, e0]
            exact hAR
          · exact r2.2.2.2.2.1 f hf), r2.2.2.2.2.2⟩
        obtain ⟨s0, u0, K, R0, I⟩ := M
        exact s_getQ Q.row.1 hp hK rfl R
      · cases h2
/-- the fact leaves this cell open -/
def hoM (v idx : AV) (p : PFE) : Bool := match p.2 with
  | a :: l => (Nat.beq a.1 2 && Nat.beq a.2.1 v.2.1) && (l.take (nhF p.1)).any fun w => isI w && avEq w idx
  | [] => false
theorem hoM_ok (hH : PSho PS) {v idx : AV} {p : PFE} {ρ : Nat → Int} {α Γ : Nat → Nat} {s0 u0 : Nat} {K : Nat → Nat × Nat} {R : Nat → Nat → Option Nat} {I : Nat → Nat → Int} {x : Int} (h : hoM v idx p = true) (h0 : 0 ≤ iv ρ idx) (r : PS p.1 (p.2.map (valO ρ α)) Γ (s0, u0, K, R, I)) : PS p.1 (p.2.map (valO ρ α)) Γ (s0, u0, K, R, up I (α v.2.1) (iv ρ idx).toNat x) := by
  obtain ⟨id, l⟩ := p
  match l, h, r with
  | [], h, _ => cases (show false = true from h)
  | a :: l, h, r =>
    obtain ⟨h1, h2⟩ := bb2 (show ((Nat.beq a.1 2 && Nat.beq a.2.1 v.2.1) && (l.take (nhF id)).any fun w => isI w && avEq w idx) = true from h)
    obtain ⟨h1, h3⟩ := bb2 h1
    rw [List.any_eq_true] at h2
    obtain ⟨w, w1, w2⟩ := h2
    obtain ⟨w2, w3⟩ := bb2 w2
    have e1 : valO ρ α a = vr (α v.2.1) := by rw [valO_ref (beq_iff.mp h1), beq_iff.mp h3]
    have e2 : valO ρ α w = vi (iv ρ idx) := by rw [valO_int w2, avEq_iv w3]
    have r : PS id (valO ρ α a :: l.map (valO ρ α)) Γ (s0, u0, K, R, I) := r
    show PS id (valO ρ α a :: l.map (valO ρ α)) Γ _
    rw [e1] at r ⊢
    refine hH id _ _ _ _ _ _ _ _ _ _ ?_ h0 r
    rw [← e2, ← List.map_take]
    exact List.mem_map.mpr ⟨w, w1, rfl⟩
/-- a number w, that was read at the cell i0 of a type and is to lie at the cell x of another, fits there -/
def shB (src dst : TYE) (lo hi : Nat) (d : Int) : Bool := dst.2.2.1.all fun r => (Nat.ble r.2.1 lo || Nat.ble hi r.1) || src.2.2.1.any fun q => (not (ltB (mxB (Int.ofNat r.1) (Int.ofNat lo) + d) (Int.ofNat q.1)) && not (ltB (Int.ofNat q.2.1) (mnB (Int.ofNat r.2.1) (Int.ofNat hi) + d))) && (not (ltB q.2.2.1 r.2.2.1) && not (ltB r.2.2.2 q.2.2.2))
def fitC (Y : Nat → TYE) (PF : List PFE) (τ lo hi : Nat) (x w : AV) : Bool := PF.any fun p => match p.1, p.2 with
  | 7, [t0, i0, w0] => (Nat.beq t0.1 0 && (isI i0 && isI w0)) && ((avEq w0 w && sameN x i0) && shB (Y t0.2.2.2.toNat) (Y τ) lo hi (i0.2.2.2 - x.2.2.2))
  | _, _ => false
theorem fitC_ok (hTy : PSty Y PS) {PF : List PFE} {τ lo hi : Nat} {x w : AV} {ρ : Nat → Int} {α Γ : Nat → Nat} {M : MM} (r : PFs PS ρ α Γ M PF) (h : fitC Y PF τ lo hi x w = true) (h1 : (lo : Int) ≤ iv ρ x) (h2 : iv ρ x < (hi : Int)) : ∀ r ∈ (Y τ).2.2.1, r.1 ≤ (iv ρ x).toNat → (iv ρ x).toNat < r.2.1 → r.2.2.1 ≤ iv ρ w ∧ iv ρ w ≤ r.2.2.2 := by
  unfold fitC at h
  rw [List.any_eq_true] at h
  obtain ⟨p, hp, h⟩ := h
  split at h
  · rename_i t0 i0 w0 hid hl
    obtain ⟨a1, a2⟩ := bb2 h
    obtain ⟨a1, a3⟩ := bb2 a1
    obtain ⟨a3, a4⟩ := bb2 a3
    obtain ⟨a2, a5⟩ := bb2 a2
    obtain ⟨a2, a6⟩ := bb2 a2
    have q := r p hp
    rw [hid, hl] at q
    have q : PS 7 [valO ρ α t0, valO ρ α i0, valO ρ α w0] Γ M := q
    rw [valO_c (beq_iff.mp a1), valO_int a3, valO_int a4, avEq_iv a2] at q
    obtain ⟨-, q⟩ := (hTy _ _ _ _ _).mp q
    have hd := sameN_iv (ρ := ρ) a6
    intro r0 hr q1 q2
    unfold shB at a5
    rw [List.all_eq_true] at a5
    have a5 := a5 r0 hr
    rw [Bool.or_eq_true, Bool.or_eq_true, ble_iff, ble_iff] at a5
    rcases a5 with a5 | a5
    · omega
    · rw [List.any_eq_true] at a5
      obtain ⟨q0, b1, b2⟩ := a5
      rw [Bool.and_eq_true, Bool.and_eq_true, Bool.and_eq_true] at b2
      simp only [Bool.not_eq_true', ltB_f, Int.ofNat_eq_natCast] at b2
      obtain ⟨⟨c1, c2⟩, c3, c4⟩ := b2
      have m1 : mxB (r0.1 : Int) (lo : Int) ≤ iv ρ x := mxB_le (by omega) h1
      have m2 : iv ρ x + 1 ≤ mnB (r0.2.1 : Int) (hi : Int) := le_mnB (by omega) (by omega)
      have := q q0 b1 (by omega) (by omega)
      omega
  · cases h
/-- the cell j of v, of the numbers lo .. hi, gets w -/
def aft (dep : Nat → List EF) (e : EF) (f : List MFE) (S3 : S3T) : S3T := (S3.1, S3.2.1, f ++ clM [e] S3.2.2.1, clP dep [e] S3.2.2.2.1, S3.2.2.2.2.1 + 0, S3.2.2.2.2.2 + 0)
def aftH (dep : Nat → List EF) (e : EF) (v idx w : AV) (S3 : S3T) : S3T := (S3.1, S3.2.1, [(v.2.1, v.2.2.1, idx, w)] ++ clM [e] S3.2.2.1, S3.2.2.2.1.filter (hoM v idx) ++ clP dep [e] S3.2.2.2.1, S3.2.2.2.2.1 + 0, S3.2.2.2.2.2 + 0)
theorem put_ok (hPS : PSok Y PS dep) (hH : PSho PS) {v w idx : AV} {lo hi : Nat} {ls t : List AV} {S3 : S3T} {ρ : Nat → Int} {α Γ : Nat → Nat} {s0 u0 : Nat} {K : Nat → Nat × Nat} {R : Nat → Nat → Option Nat} {I : Nat → Nat → Int} {ls2 t2 : List MV} (r : REL Y PS E Γ0 M0 ρ α Γ (s0, u0, K, R, I) (ls, t, S3) ls2 t2) (hΓ : Γ (α v.2.1) = v.2.2.1 ∧ v.2.2.1 ≠ 0) (hi2 : isI idx = true) (hw : isI w = true) (h0 : 0 ≤ iv ρ idx) (h1 : lo ≤ (iv ρ idx).toNat) (h2 : (iv ρ idx).toNat < hi) (hf : ∀ r ∈ (Y v.2.2.1).2.2.1, r.1 ≤ (iv ρ idx).toNat → (iv ρ idx).toNat < r.2.1 → r.2.2.1 ≤ iv ρ w ∧ iv ρ w ≤ r.2.2.2) (hE : efIn (v.2.2.1, lo, hi) E = true) :
    REL Y PS E Γ0 M0 ρ α Γ (s0, u0, K, R, up I (α v.2.1) (iv ρ idx).toNat (iv ρ w)) (ls, t, aftH dep (v.2.2.1, lo, hi) v idx w S3) ls2 t2 := by
  have hF : FRM [(v.2.2.1, lo, hi)] Γ (s0, u0, K, R, I) (s0, u0, K, R, up I (α v.2.1) (iv ρ idx).toNat (iv ρ w)) := by
    have := FRM_up (Γ := Γ) (s := s0) (u := u0) (K := K) (R := R) (I := I) (a := α v.2.1) (x := iv ρ w) h1 h2 (by rw [hΓ.1]; exact hΓ.2)
    rw [hΓ.1] at this
    exact this
  have hT := HT_up2 (Y := Y) (x := iv ρ w) (a := α v.2.1) (j := (iv ρ idx).toNat) r.1 (by rw [hΓ.1]; exact hf)
  have q := REL.frm hPS (da := 0) (ds := 0) r hT hF (fun _ _ => rfl) (by unfold efsIn; rw [List.all_eq_true]; intro e he; cases List.mem_singleton.mp he; exact hE) (Nat.le_refl _) (Nat.le_refl _)
  refine ⟨q.1, q.2.1, q.2.2.1, q.2.2.2.1, fun f hf => ?_, fun p hp => ?_, q.2.2.2.2.2.2⟩
  · rcases List.mem_append.mp (show f ∈ [(v.2.1, v.2.2.1, idx, w)] ++ clM [(v.2.2.1, lo, hi)] S3.2.2.1 from hf) with h9 | h9
    · cases List.mem_singleton.mp h9
      refine ⟨hΓ.1, hΓ.2, hi2, h0, Or.inl ⟨hw, ?_⟩⟩
      show up I (α v.2.1) (iv ρ idx).toNat (iv ρ w) (α v.2.1) (iv ρ idx).toNat = iv ρ w
      unfold up
      rw [if_pos ⟨rfl, rfl⟩]
    · exact q.2.2.2.2.1 f h9
  · rcases List.mem_append.mp (show p ∈ S3.2.2.2.1.filter (hoM v idx) ++ clP dep [(v.2.2.1, lo, hi)] S3.2.2.2.1 from hp) with h9 | h9
    · rw [List.mem_filter] at h9
      exact hoM_ok hH h9.2 h0 (r.2.2.2.2.2.1 p h9.1)
    · exact q.2.2.2.2.2.1 p h9
def is01 (p : Int × Int) : Bool := not (ltB p.1 0) && not (ltB 1 p.2)
theorem is01_ok {p : Int × Int} {x : Int} (h : is01 p = true) (h1 : p.1 ≤ x) (h2 : x ≤ p.2) : x = 0 ∨ x = 1 := by
  unfold is01 at h
  rw [Bool.and_eq_true, Bool.not_eq_true', Bool.not_eq_true', ltB_f, ltB_f] at h
  omega
def e_putI (Y : Nat → TYE) (dep : Nat → List EF) (E : List EF) (g c j : Nat) (go : GE) (n : Nat) (S : SE) : Bool := match S.2.1 with
  | w :: v :: t => ((isI w && Nat.beq v.1 2) && ((Nat.beq (Y v.2.2.1).1 c && Nat.beq (Y v.2.2.1).2.1 0) && (Nat.beq g 1 || is01 (ivl S.2.2.1 w)))) && ((fitI (Y v.2.2.1) j (j + 1) (ivl S.2.2.1 w) && efIn (v.2.2.1, j, j + 1) E) &&
      go (n + 1) (S.1, t, aftH dep (v.2.2.1, j, j + 1) v (aC (Int.ofNat j)) w S.2.2))
  | _ => false
theorem q_putI (hPS : PSok Y PS dep) (hH : PSho PS) {idx c j g : Nat} (Q : SQ Y PS E Γ0 M0 d k Post go n (pc, .putfield idx, 3, g, c, j) r) (hp : pool (mcls k) idx = some (g, c, j)) (hg : g = 1 ∨ g = 2) (hfn : fn c j = false) (h : e_putI Y dep E g c j go n S = true) : TRU Y PS E Γ0 M0 d k Post pc S := by
  obtain ⟨ls, st, S3⟩ := S
  intro ρ α Γ M ls2 st2 r
  match st, h, r with
  | [], h, _ => cases h
  | [_], h, _ => cases h
  | w :: v :: t, h, r =>
    obtain ⟨h1, h2⟩ := bb2 (show (((isI w && Nat.beq v.1 2) && ((Nat.beq (Y v.2.2.1).1 c && Nat.beq (Y v.2.2.1).2.1 0) && (Nat.beq g 1 || is01 (ivl S3.1 w)))) && ((fitI (Y v.2.2.1) j (j + 1) (ivl S3.1 w) && efIn (v.2.2.1, j, j + 1) E) &&
      go (n + 1) (ls, t, aftH dep (v.2.2.1, j, j + 1) v (aC (Int.ofNat j)) w S3))) = true from h)
    obtain ⟨h1, h3⟩ := bb2 h1
    obtain ⟨h1, hv⟩ := bb2 h1
    obtain ⟨h3, h01⟩ := bb2 h3
    obtain ⟨h3, h4⟩ := bb2 h3
    obtain ⟨h2, hgo⟩ := bb2 h2
    obtain ⟨hfit, hef⟩ := bb2 h2
    obtain ⟨mw, t1, rfl, h5, h6⟩ := ARs.cons r.2.2.2.1
    obtain ⟨mv, t2, rfl, h7, h8⟩ := ARs.cons h6
    cases h5.int h1
    obtain ⟨rfl, g1, g2⟩ := h7.ref (beq_iff.mp hv)
    have hK := KD_l (r.1 (α v.2.1) (by rw [g1]; exact g2)).2.1 (by rw [g1, beq_iff.mp h4]; decide)
    rw [g1, beq_iff.mp h3, beq_iff.mp h4] at hK
    have hb := ivl_ok r.2.1 h1
    obtain ⟨s0, u0, K, R, I⟩ := M
    have r8 : REL Y PS E Γ0 M0 ρ α Γ (s0, u0, K, R, I) (ls, t, S3) ls2 t2 := ⟨r.1, r.2.1, r.2.2.1, h8, r.2.2.2.2⟩
    have q := put_ok hPS hH (v := v) (w := w) (idx := aC (Int.ofNat j)) (lo := j) (hi := j + 1) r8 ⟨g1, g2⟩ rfl h1 (Int.natCast_nonneg _) (Nat.le_refl _) (Nat.lt_succ_self _) (fitI_ok hfit (Nat.le_refl _) (Nat.lt_succ_self _) hb) hef
    rcases hg with rfl | rfl
    · exact s_putI Q.row.1 hp hK hfn rfl (Q.next hgo ρ α Γ _ ls2 t2 q)
    · have h01 : (Nat.beq 2 1 || is01 (ivl S3.1 w)) = true := h01
      exact s_putZ Q.row.1 hp hK hfn (is01_ok (by rw [Bool.or_eq_true] at h01; rcases h01 with h | h; · cases h
                                                  · exact h) hb.1 hb.2) rfl (Q.next hgo ρ α Γ _ ls2 t2 q)
end
