/-! the evaluator tells the truth: what is written -/
theorem okG_1 {ρ : Nat → Int} {g : Nat} {v : VV} {m : MV} (h : okG g v = true) (r : VR ρ v m) : (g = 1 ∧ ∃ x, m = vi x) ∨ (g = 2 ∧ ∃ x, m = vi x ∧ (x = 0 ∨ x = 1)) ∨ (g = 3 ∧ ∃ x, m = vr x) := by
  unfold okG at h
  split at h
  · rename_i x
    cases h1 : Nat.beq g 1 with
    | true => exact Or.inl ⟨beq_iff.mp h1, x, r⟩
    | false =>
      rw [h1, cond_false] at h
      cases h2 : Nat.beq g 2 with
      | false => rw [h2] at h; cases h
      | true =>
        rw [h2, cond_true, Bool.or_eq_true, eqB_iff, eqB_iff] at h
        exact Or.inr (Or.inl ⟨beq_iff.mp h2, x, r, h⟩)
  · rename_i x
    exact Or.inr (Or.inr ⟨beq_iff.mp h, x, r⟩)
  · cases h
  · rename_i t z1 z2
    rw [Bool.and_eq_true, beq_iff, beq_iff] at h
    exact Or.inl ⟨h.1, VR.int (show ty (Sum.inr (t, z1, z2)) = 0 from h.2) r⟩
/-- the heap behind a write of a number, of a place -/
theorem HR.putI {ρ : Nat → Int} {T : HT} {s u s0 u0 : Nat} {K : Nat → Nat × Nat} {R : Nat → Nat → Option Nat} {I : Nat → Nat → Int} {a j kc kn : Nat} {dv v : VV} {tr : BT VV 12} {x : Int} (h : HR ρ T s u (s0, u0, K, R, I)) (ho : bget 7 T a = some (kc, kn, dv, tr)) (hj : j < 4096) (hv : VR ρ v (vi x)) : HR ρ (bset 7 T a (kc, kn, dv, bset 12 tr j v)) s u (s0, u0, K, R, up I a j x) := by
  have ha := bget_lt 7 _ _ _ ho
  refine h.upd ha ho rfl rfl rfl (fun b i hb => ⟨?_, rfl⟩) (fun i hi hi2 => ?_)
  · show up I a j x b i = I b i
    unfold up
    rw [if_neg (fun q => hb q.1)]
  · show CE ρ kc dv (bget 12 (bset 12 tr j v) i) (up I a j x a i) (R a i)
    rw [bget_bset 12 tr j i v (show j < 2 ^ 12 from hj) (show i < 2 ^ 12 from hi)]
    unfold up
    by_cases hij : i = j
    · rw [if_pos hij, if_pos ⟨rfl, hij⟩]
      exact Or.inl hv
    · rw [if_neg hij, if_neg (fun q => hij q.2)]
      exact (h.2.2 a _ ha ho).2.2 i hi hi2
theorem HR.putR {ρ : Nat → Int} {T : HT} {s u s0 u0 : Nat} {K : Nat → Nat × Nat} {R : Nat → Nat → Option Nat} {I : Nat → Nat → Int} {a j kc kn : Nat} {dv v : VV} {tr : BT VV 12} {x : Nat} (h : HR ρ T s u (s0, u0, K, R, I)) (ho : bget 7 T a = some (kc, kn, dv, tr)) (hj : j < 4096) (hk : kc < 20 ∨ kc = 22) (hv : VR ρ v (vr x)) : HR ρ (bset 7 T a (kc, kn, dv, bset 12 tr j v)) s u (s0, u0, K, up R a j (some x), I) := by
  have ha := bget_lt 7 _ _ _ ho
  refine h.upd ha ho rfl rfl rfl (fun b i hb => ⟨rfl, ?_⟩) (fun i hi hi2 => ?_)
  · show up R a j (some x) b i = R b i
    unfold up
    rw [if_neg (fun q => hb q.1)]
  · show CE ρ kc dv (bget 12 (bset 12 tr j v) i) (I a i) (up R a j (some x) a i)
    rw [bget_bset 12 tr j i v (show j < 2 ^ 12 from hj) (show i < 2 ^ 12 from hi)]
    unfold up
    by_cases hij : i = j
    · rw [if_pos hij, if_pos ⟨rfl, hij⟩]
      exact Or.inr ⟨hk, hv⟩
    · rw [if_neg hij, if_neg (fun q => hij q.2)]
      exact (h.2.2 a _ ha ho).2.2 i hi hi2
section
variable {go : GO} {k n pc len a1 a2 a3 : Nat} {r : List OE} {D : Nat} {ls st : List VV} {fs : List FR} {T : HT} {s u : Nat} {C : CT}
theorem o_put {idx : Nat} (S : STP go k n (pc, .putfield idx, len, a1, a2, a3) r) (hl : len = 3) (hp : pool (mcls k) idx = some (a1, a2, a3)) (hj : a3 ≤ 63) (hk20 : a2 < 20) (hf : fn a2 a3 = false ∨ ((mname k).name = "<init>" ∧ mcls k = a2)) (h : x_put go (pc, .putfield idx, len, a1, a2, a3) D k (ops k) r ls st fs T s u C = true) : SemAt D k pc ls st fs T s u C := by
  subst hl
  intro ρ ls2 st2 fs2 M hC h1 h2 h3 h4
  obtain ⟨s0, u0, K, R, I⟩ := M
  unfold x_put at h
  split at h
  · rename_i v a t0
    obtain ⟨m, t1, rfl, h5, h6⟩ := h2.cons
    obtain ⟨m2, t2, rfl, h7, h8⟩ := h6.cons
    cases (show m2 = vr a from h7)
    split at h
    · rename_i kc kn dv tr ho
      have ha := bget_lt 7 _ _ _ ho
      obtain ⟨w1, w2, w3⟩ := h4.2.2 a _ ha ho
      cases hc : (Nat.beq kc a2 && (Nat.beq kn 0 && okG a1 v)) with
      | false => rw [show (Nat.beq kc (pc, Instr.putfield idx, 3, a1, a2, a3).2.2.2.2.1 && (Nat.beq kn 0 && okG (pc, Instr.putfield idx, 3, a1, a2, a3).2.2.2.1 v)) = false from hc] at h; cases h
      | true =>
        rw [show (Nat.beq kc (pc, Instr.putfield idx, 3, a1, a2, a3).2.2.2.2.1 && (Nat.beq kn 0 && okG (pc, Instr.putfield idx, 3, a1, a2, a3).2.2.2.1 v)) = true from hc, cond_true] at h
        rw [Bool.and_eq_true, Bool.and_eq_true, beq_iff, beq_iff] at hc
        obtain ⟨rfl, rfl, hg⟩ := hc
        have hka : K a = (kc, 0) := w2
        rw [bsetK_eq, bsetK_eq] at h
        rcases okG_1 hg h5 with ⟨rfl, x, rfl⟩ | ⟨rfl, x, rfl, hx⟩ | ⟨rfl, x, rfl⟩
        · obtain ⟨n9, r9, M9, q1, q2⟩ := S.next h ρ ls2 t2 fs2 (s0, u0, K, R, up I a a3 x) hC h1 h8 h3 (h4.putI (j := a3) ho (by omega) h5)
          exact ⟨n9 + 1, r9, M9, ⟨q1.mono, _, _, S.row.1, Or.inr ⟨rfl, 1, kc, a3, a, t2, _, _, rfl, hp, hka, hf, Or.inl ⟨rfl, x, rfl, rfl⟩, q1⟩⟩, q2⟩
        · obtain ⟨n9, r9, M9, q1, q2⟩ := S.next h ρ ls2 t2 fs2 (s0, u0, K, R, up I a a3 x) hC h1 h8 h3 (h4.putI (j := a3) ho (by omega) h5)
          exact ⟨n9 + 1, r9, M9, ⟨q1.mono, _, _, S.row.1, Or.inr ⟨rfl, 2, kc, a3, a, t2, _, _, rfl, hp, hka, hf, Or.inr (Or.inl ⟨rfl, x, rfl, hx, rfl⟩), q1⟩⟩, q2⟩
        · obtain ⟨n9, r9, M9, q1, q2⟩ := S.next h ρ ls2 t2 fs2 (s0, u0, K, up R a a3 (some x), I) hC h1 h8 h3 (h4.putR (j := a3) ho (by omega) (Or.inl hk20) h5)
          exact ⟨n9 + 1, r9, M9, ⟨q1.mono, _, _, S.row.1, Or.inr ⟨rfl, 3, kc, a3, a, t2, _, _, rfl, hp, hka, hf, Or.inr (Or.inr ⟨rfl, x, rfl, rfl⟩), q1⟩⟩, q2⟩
    · cases h
  · cases h
theorem nrmK_ok {ρ : Nat → Int} {C : CT} {w : VV} {m : MV} {k : VV → Bool} (h : nrmK C w k = true) (hC : BS ρ C) (r : VR ρ w m) : ∃ w2, k w2 = true ∧ VR ρ w2 m := by
  unfold nrmK at h
  split at h
  · rename_i i z
    cases hq : eqB (bnd C i.toNat).1 (bnd C i.toNat).2 with
    | false => rw [hq] at h; exact ⟨_, h, r⟩
    | true =>
      rw [hq, cond_true, fI_eq] at h
      rw [eqB_iff] at hq
      have hb := hC.2 i.toNat
      rcases r with ⟨h9, -⟩ | ⟨h9, -⟩ | ⟨-, r⟩ | ⟨h9, -⟩ | ⟨h9, -⟩ | ⟨h9, -⟩ | ⟨h9, -⟩ | ⟨h9, -⟩ <;> first | (cases h9; done) | skip
      refine ⟨_, h, ?_⟩
      subst r
      have e : ρ i.toNat = (bnd C i.toNat).1 := by omega
      rw [e]
      rfl
  · exact ⟨_, h, r⟩
theorem o_ald {ok : Nat → Bool} {i : Instr} (S : STP go k n (pc, i, len, a1, a2, a3) r) (hok : ∀ kc, ok kc = true → kc ≠ 22)
    (row : ∀ {ls t : List MV} {s0 u0 : Nat} {K : Nat → Nat × Nat} {R : Nat → Nat → Option Nat} {I : Nat → Nat → Int} {Q : Option MV → MM → Prop} (a m kc kn : Nat), ok kc = true → K a = (kc, kn) → m < kn → Wm D k (pc + len) ls (vi (I a m) :: t) (s0, u0, K, R, I) Q → Wm D k pc ls (vi ((m : Nat) : Int) :: vr a :: t) (s0, u0, K, R, I) Q)
    (h : x_ald ok go (pc, i, len, a1, a2, a3) D k (ops k) r ls st fs T s u C = true) : SemAt D k pc ls st fs T s u C := by
  intro ρ ls2 st2 fs2 M hC h1 h2 h3 h4
  obtain ⟨s0, u0, K, R, I⟩ := M
  unfold x_ald at h
  split at h
  · rename_i m a t0
    obtain ⟨m1, t1, rfl, h5, h6⟩ := h2.cons
    obtain ⟨m2, t2, rfl, h7, h8⟩ := h6.cons
    cases (show m2 = vr a from h7)
    cases (show m1 = vi ((m : Nat) : Int) from h5)
    split at h
    · rename_i kc kn dv tr ho
      have ha := bget_lt 7 _ _ _ ho
      obtain ⟨w1, w2, w3⟩ := h4.2.2 a _ ha ho
      cases hc : (ok kc && (Nat.ble (Nat.succ m) kn && Nat.ble kn 4096)) with
      | false => rw [hc] at h; cases h
      | true =>
        rw [hc, cond_true] at h
        rw [Bool.and_eq_true, Bool.and_eq_true, ble_iff, ble_iff] at hc
        obtain ⟨c1, c2, c3⟩ := hc
        have hce : CE ρ kc dv (bget 12 tr m) (I a m) (R a m) := w3 m (by omega) (Or.inr c2)
        refine row a m kc kn c1 w2 c2 ?_
        split at h
        · rename_i w hw
          rw [hw] at hce
          cases ht : Nat.beq (ty w) 0 with
          | false => rw [ht] at h; cases h
          | true =>
            rw [ht, cond_true] at h
            obtain ⟨w2, q1, q2⟩ := nrmK_ok h hC (hce.num (beq_iff.mp ht))
            exact S.next q1 ρ ls2 (vi (I a m) :: t2) fs2 _ hC h1 ⟨q2, h8⟩ h3 h4
        · rename_i hw
          rw [hw] at hce
          cases ht : Nat.beq (ty dv) 0 with
          | false => rw [ht] at h; cases h
          | true =>
            rw [ht, cond_true] at h
            exact S.next h ρ ls2 (vi (I a m) :: t2) fs2 _ hC h1 ⟨hce.1 (hok kc c1), h8⟩ h3 h4
    · cases h
  · cases h
theorem o_aald (S : STP go k n (pc, .aaload, len, a1, a2, a3) r) (hl : len = 1) (h : x_aald go (pc, .aaload, len, a1, a2, a3) D k (ops k) r ls st fs T s u C = true) : SemAt D k pc ls st fs T s u C := by
  subst hl
  intro ρ ls2 st2 fs2 M hC h1 h2 h3 h4
  obtain ⟨s0, u0, K, R, I⟩ := M
  unfold x_aald at h
  split at h
  · rename_i m a t0
    obtain ⟨m1, t1, rfl, h5, h6⟩ := h2.cons
    obtain ⟨m2, t2, rfl, h7, h8⟩ := h6.cons
    cases (show m2 = vr a from h7)
    cases (show m1 = vi ((m : Nat) : Int) from h5)
    split at h
    · rename_i kc kn dv tr ho
      have ha := bget_lt 7 _ _ _ ho
      obtain ⟨w1, w2, w3⟩ := h4.2.2 a _ ha ho
      cases hc : (Nat.beq kc 22 && (Nat.ble (Nat.succ m) kn && Nat.ble kn 4096)) with
      | false => rw [hc] at h; cases h
      | true =>
        rw [hc, cond_true] at h
        rw [Bool.and_eq_true, Bool.and_eq_true, beq_iff, ble_iff, ble_iff] at hc
        obtain ⟨rfl, c2, c3⟩ := hc
        have hce : CE ρ 22 dv (bget 12 tr m) (I a m) (R a m) := w3 m (by omega) (Or.inr c2)
        refine s_aald (x := R a m) S.row.1 (show K a = (22, kn) from w2) (by omega) (by omega) rfl ?_
        split at h
        · rename_i w hw
          rw [hw] at hce
          cases ht : Nat.beq (ty w) 2 with
          | false => rw [ht] at h; cases h
          | true =>
            rw [ht, cond_true] at h
            exact S.next h ρ ls2 (vq (R a m) :: t2) fs2 _ hC h1 ⟨hce.plc (beq_iff.mp ht), h8⟩ h3 h4
        · rename_i hw
          rw [hw] at hce
          rw [hce.2 (Or.inr rfl)]
          exact S.next h ρ ls2 (vn :: t2) fs2 _ hC h1 ⟨rfl, h8⟩ h3 h4
    · cases h
  · cases h
theorem o_ast {kc0 g : Nat} {i : Instr} (S : STP go k n (pc, i, len, a1, a2, a3) r) (hg12 : g = 1 ∨ g = 2)
    (row : ∀ {ls t : List MV} {s0 u0 : Nat} {K : Nat → Nat × Nat} {R : Nat → Nat → Option Nat} {I : Nat → Nat → Int} {Q : Option MV → MM → Prop} (a m kn : Nat) (x : Int), (g = 2 → x = 0 ∨ x = 1) → K a = (kc0, kn) → m < kn → Wm D k (pc + len) ls t (s0, u0, K, R, up I a m x) Q → Wm D k pc ls (vi x :: vi ((m : Nat) : Int) :: vr a :: t) (s0, u0, K, R, I) Q)
    (h : x_ast kc0 g go (pc, i, len, a1, a2, a3) D k (ops k) r ls st fs T s u C = true) : SemAt D k pc ls st fs T s u C := by
  intro ρ ls2 st2 fs2 M hC h1 h2 h3 h4
  obtain ⟨s0, u0, K, R, I⟩ := M
  unfold x_ast at h
  split at h
  · rename_i v m a t0
    obtain ⟨m0, t9, rfl, h9, h10⟩ := h2.cons
    obtain ⟨m1, t1, rfl, h5, h6⟩ := h10.cons
    obtain ⟨m2, t2, rfl, h7, h8⟩ := h6.cons
    cases (show m2 = vr a from h7)
    cases (show m1 = vi ((m : Nat) : Int) from h5)
    split at h
    · rename_i kc kn dv tr ho
      have ha := bget_lt 7 _ _ _ ho
      obtain ⟨w1, w2, w3⟩ := h4.2.2 a _ ha ho
      cases hc : (Nat.beq kc kc0 && (Nat.ble (Nat.succ m) kn && (Nat.ble kn 4096 && okG g v))) with
      | false => rw [hc] at h; cases h
      | true =>
        rw [hc, cond_true, bsetK_eq, bsetK_eq] at h
        rw [Bool.and_eq_true, Bool.and_eq_true, Bool.and_eq_true, beq_iff, ble_iff, ble_iff] at hc
        obtain ⟨rfl, c2, c3, c4⟩ := hc
        rcases okG_1 c4 h9 with ⟨rfl, x, rfl⟩ | ⟨rfl, x, rfl, hx⟩ | ⟨rfl, x, rfl⟩
        · exact row a m kn x (fun q => by cases q) w2 c2 (S.next h ρ ls2 t2 fs2 _ hC h1 h8 h3 (h4.putI ho (by omega) h9))
        · exact row a m kn x (fun _ => hx) w2 c2 (S.next h ρ ls2 t2 fs2 _ hC h1 h8 h3 (h4.putI ho (by omega) h9))
        · rcases hg12 with q | q <;> cases q
    · cases h
  · cases h
theorem o_aast (S : STP go k n (pc, .aastore, len, a1, a2, a3) r) (hl : len = 1) (h : x_aast go (pc, .aastore, len, a1, a2, a3) D k (ops k) r ls st fs T s u C = true) : SemAt D k pc ls st fs T s u C := by
  subst hl
  intro ρ ls2 st2 fs2 M hC h1 h2 h3 h4
  obtain ⟨s0, u0, K, R, I⟩ := M
  unfold x_aast at h
  split at h
  · rename_i x m a t0
    obtain ⟨m0, t9, rfl, h9, h10⟩ := h2.cons
    obtain ⟨m1, t1, rfl, h5, h6⟩ := h10.cons
    obtain ⟨m2, t2, rfl, h7, h8⟩ := h6.cons
    cases (show m2 = vr a from h7)
    cases (show m1 = vi ((m : Nat) : Int) from h5)
    cases (show m0 = vr x from h9)
    split at h
    · rename_i kc kn dv tr xc xn z1 z2 ho hx
      obtain ⟨w1, w2, w3⟩ := h4.2.2 a _ (bget_lt 7 _ _ _ ho) ho
      obtain ⟨-, x2, -⟩ := h4.2.2 x _ (bget_lt 7 _ _ _ hx) hx
      cases hc : (Nat.beq kc 22 && (Nat.ble (Nat.succ m) kn && (Nat.ble kn 4096 && (Nat.beq xc 10 && Nat.beq xn 0)))) with
      | false => rw [hc] at h; cases h
      | true =>
        rw [hc, cond_true, bsetK_eq, bsetK_eq] at h
        rw [Bool.and_eq_true, Bool.and_eq_true, Bool.and_eq_true, Bool.and_eq_true, beq_iff, ble_iff, ble_iff, beq_iff, beq_iff] at hc
        obtain ⟨rfl, c2, c3, rfl, rfl⟩ := hc
        exact s_aast S.row.1 (show K a = (22, kn) from w2) x2 (by omega) (by omega) rfl (S.next h ρ ls2 t2 fs2 _ hC h1 h8 h3 (h4.putR ho (by omega) (Or.inr rfl) rfl))
    · cases h
  · cases h
theorem o_alen (S : STP go k n (pc, .arraylength, len, a1, a2, a3) r) (hl : len = 1) (h : x_alen go (pc, .arraylength, len, a1, a2, a3) D k (ops k) r ls st fs T s u C = true) : SemAt D k pc ls st fs T s u C := by
  subst hl
  intro ρ ls2 st2 fs2 M hC h1 h2 h3 h4
  obtain ⟨s0, u0, K, R, I⟩ := M
  unfold x_alen at h
  split at h
  · rename_i a t0
    obtain ⟨m2, t2, rfl, h7, h8⟩ := h2.cons
    cases (show m2 = vr a from h7)
    split at h
    · rename_i kc kn z1 z2 ho
      obtain ⟨w1, w2, w3⟩ := h4.2.2 a _ (bget_lt 7 _ _ _ ho) ho
      cases hc : (Nat.ble 20 kc && Nat.ble kc 23) with
      | false => rw [hc] at h; cases h
      | true =>
        rw [hc, cond_true] at h
        rw [Bool.and_eq_true, ble_iff, ble_iff] at hc
        exact s_alen S.row.1 w2 (by omega) (S.next h ρ ls2 (vi (kn : Int) :: t2) fs2 _ hC h1 ⟨rfl, h8⟩ h3 h4)
    · cases h
  · cases h
theorem o_newa {kc : Nat} {i : Instr} (S : STP go k n (pc, i, len, a1, a2, a3) r)
    (row : ∀ {ls t : List MV} {s0 u0 : Nat} {K : Nat → Nat × Nat} {R : Nat → Nat → Option Nat} {I : Nat → Nat → Int} {Q : Option MV → MM → Prop} (m : Nat), m ≤ 100000 → Wm D k (pc + len) ls (vr s0 :: t) (s0 + 1, u0 + m, upk K s0 (kc, m), upz R s0 none, upz I s0 0) Q → Wm D k pc ls (vi ((m : Nat) : Int) :: t) (s0, u0, K, R, I) Q)
    (h : x_newa kc go (pc, i, len, a1, a2, a3) D k (ops k) r ls st fs T s u C = true) : SemAt D k pc ls st fs T s u C := by
  intro ρ ls2 st2 fs2 M hC h1 h2 h3 h4
  obtain ⟨s0, u0, K, R, I⟩ := M
  unfold x_newa at h
  split at h
  · rename_i m t0
    obtain ⟨m1, t2, rfl, h5, h8⟩ := h2.cons
    cases (show m1 = vi ((m : Nat) : Int) from h5)
    cases hc : (Nat.ble m 100000 && Nat.ble (Nat.succ s) 128) with
    | false => rw [hc] at h; cases h
    | true =>
      rw [hc, cond_true, bsetK_eq, fN_eq, fN_eq] at h
      rw [Bool.and_eq_true, ble_iff, ble_iff] at hc
      have hs0 : s0 = s := h4.1
      refine row m hc.1 (S.next h ρ ls2 (vr s0 :: t2) fs2 _ hC h1 ⟨by rw [hs0]; rfl, h8⟩ h3 (h4.new hc.2))
  · cases h
theorem o_new {idx : Nat} (S : STP go k n (pc, .new idx, len, a1, a2, a3) r) (hl : len = 3) (hp : pool (mcls k) idx = some (5, a2, a3)) (h : x_new go (pc, .new idx, len, a1, a2, a3) D k (ops k) r ls st fs T s u C = true) : SemAt D k pc ls st fs T s u C := by
  subst hl
  intro ρ ls2 st2 fs2 M hC h1 h2 h3 h4
  obtain ⟨s0, u0, K, R, I⟩ := M
  unfold x_new at h
  cases hc : Nat.ble (Nat.succ s) 128 with
  | false => rw [hc] at h; cases h
  | true =>
    rw [hc, cond_true, bsetK_eq, fN_eq, fN_eq] at h
    rw [ble_iff] at hc
    have hs0 : s0 = s := h4.1
    exact s_new S.row.1 hp (S.next h ρ ls2 (vr s0 :: st2) fs2 _ hC h1 ⟨by rw [hs0]; rfl, h2⟩ h3 (h4.new hc))
end
