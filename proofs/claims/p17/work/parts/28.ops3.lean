/-! the evaluator tells the truth: what is written -/
theorem okG_1 {ρ : Nat → Int} {g : Nat} {v : VV} {m : MV} (h : okG g v = true) (r : VR ρ v m) : (g = 1 ∧ ∃ x, m = vi x) ∨ (g = 2 ∧ ∃ x, m = vi x ∧ (x = 0 ∨ x = 1)) ∨ (g = 3 ∧ ∃ x, m = vr x) := by
  unfold okG at h
  split at h
  · rename_i x
    cases h1 : Nat.beq g 1 with
    | true => exact Or.inl ⟨beq_iff.mp h1, x, r⟩
    | false =>
      rw [h1, cond_false] at h
      cases h2 : Nat.beq g 2 with
      | false => rw [h2] at h; cases h
      | true =>
        rw [h2, cond_true, Bool.or_eq_true, eqB_iff, eqB_iff] at h
        exact Or.inr (Or.inl ⟨beq_iff.mp h2, x, r, h⟩)
  · rename_i x
    exact Or.inr (Or.inr ⟨beq_iff.mp h, x, r⟩)
  · cases h
  · rename_i t z1 z2
    rw [Bool.and_eq_true, beq_iff, beq_iff] at h
    exact Or.inl ⟨h.1, VR.int (show ty (Sum.inr (t, z1, z2)) = 0 from h.2) r⟩
/-- the heap behind a write into a row of numbers, into an object or a row of places -/
theorem HR.putN {ρ : Nat → Int} {T : HT} {s u s0 u0 : Nat} {K : Nat → Nat × Nat} {R : Nat → Nat → Option Nat} {I : Nat → Nat → Int} {a j kc kn A c : Nat} {v : VV} {x : Int} (h : HR ρ T s u (s0, u0, K, R, I)) (ho : bget 7 T a = some (kc, kn, [], A)) (hk : isN kc = true) (he : enc v = some c) (hv : VR ρ v (vi x)) : HR ρ (bset 7 T a (kc, kn, [], pset A j c)) s u (s0, u0, K, R, up I a j x) := by
  obtain ⟨hc, hd⟩ := dec_ok he hv
  refine h.upd ho rfl rfl rfl (fun b i hb => ⟨?_, rfl⟩) (fun i hi2 => ⟨fun _ _ => ?_, fun q => by rw [hk] at q; cases q⟩)
  · show up I a j x b i = I b i
    unfold up
    rw [if_neg (fun q => hb q.1)]
  · show VR ρ (dec (pget (pset A j c) i)) (vi (up I a j x a i))
    rw [pget_pset hc]
    unfold up
    by_cases hij : i = j
    · rw [if_pos hij, if_pos ⟨rfl, hij⟩]
      exact hd
    · rw [if_neg hij, if_neg (fun q => hij q.2)]
      exact ((h.2.2 a _ ho).2.2 i hi2).1 hk rfl
theorem HR.putI {ρ : Nat → Int} {T : HT} {s u s0 u0 : Nat} {K : Nat → Nat × Nat} {R : Nat → Nat → Option Nat} {I : Nat → Nat → Int} {a j kc kn A : Nat} {F F2 : List (Option VV)} {v : VV} {x : Int} (h : HR ρ T s u (s0, u0, K, R, I)) (ho : bget 7 T a = some (kc, kn, F, A)) (hk : isN kc = false) (hF : ∀ i, fget i F2 = if i = j then some v else fget i F) (hv : VR ρ v (vi x)) : HR ρ (bset 7 T a (kc, kn, F2, A)) s u (s0, u0, K, R, up I a j x) := by
  refine h.upd ho rfl rfl rfl (fun b i hb => ⟨?_, rfl⟩) (fun i hi2 => ⟨fun q => (by rw [hk] at q; cases q), fun _ => ?_⟩)
  · show up I a j x b i = I b i
    unfold up
    rw [if_neg (fun q => hb q.1)]
  · show (fget i F2 = none → up I a j x a i = 0 ∧ R a i = none) ∧ ∀ w, fget i F2 = some w → VR ρ w (vi (up I a j x a i)) ∨ VR ρ w (vq (R a i))
    rw [hF i]
    unfold up
    by_cases hij : i = j
    · rw [if_pos hij, if_pos ⟨rfl, hij⟩]
      exact ⟨fun q => (by cases q), fun w hw => by cases hw; exact Or.inl hv⟩
    · rw [if_neg hij, if_neg (fun q => hij q.2)]
      exact ((h.2.2 a _ ho).2.2 i hi2).2 hk
theorem HR.putR {ρ : Nat → Int} {T : HT} {s u s0 u0 : Nat} {K : Nat → Nat × Nat} {R : Nat → Nat → Option Nat} {I : Nat → Nat → Int} {a j kc kn A : Nat} {F F2 : List (Option VV)} {v : VV} {x : Nat} (h : HR ρ T s u (s0, u0, K, R, I)) (ho : bget 7 T a = some (kc, kn, F, A)) (hk : isN kc = false) (hF : ∀ i, fget i F2 = if i = j then some v else fget i F) (hv : VR ρ v (vr x)) : HR ρ (bset 7 T a (kc, kn, F2, A)) s u (s0, u0, K, up R a j (some x), I) := by
  refine h.upd ho rfl rfl rfl (fun b i hb => ⟨rfl, ?_⟩) (fun i hi2 => ⟨fun q => (by rw [hk] at q; cases q), fun _ => ?_⟩)
  · show up R a j (some x) b i = R b i
    unfold up
    rw [if_neg (fun q => hb q.1)]
  · show (fget i F2 = none → I a i = 0 ∧ up R a j (some x) a i = none) ∧ ∀ w, fget i F2 = some w → VR ρ w (vi (I a i)) ∨ VR ρ w (vq (up R a j (some x) a i))
    rw [hF i]
    unfold up
    by_cases hij : i = j
    · rw [if_pos hij, if_pos ⟨rfl, hij⟩]
      exact ⟨fun q => (by cases q), fun w hw => by cases hw; exact Or.inr hv⟩
    · rw [if_neg hij, if_neg (fun q => hij q.2)]
      exact ((h.2.2 a _ ho).2.2 i hi2).2 hk
section
variable {go : GO} {k n pc len a1 a2 a3 : Nat} {r : List OE} {D : Nat} {ls st : List VV} {fs : List FR} {T : HT} {s u : Nat} {C : CT}
theorem o_put {idx : Nat} (S : STP go k n (pc, .putfield idx, len, a1, a2, a3) r) (hl : len = 3) (hp : pool (mcls k) idx = some (a1, a2, a3)) (hk20 : a2 < 20) (hf : fn a2 a3 = false ∨ ((mname k).name = "<init>" ∧ mcls k = a2)) (h : x_put go (pc, .putfield idx, len, a1, a2, a3) D k (ops k) r ls st fs T s u C = true) : SemAt D k pc ls st fs T s u C := by
  subst hl
  intro ρ ls2 st2 fs2 M hC h1 h2 h3 h4
  obtain ⟨s0, u0, K, R, I⟩ := M
  unfold x_put at h
  split at h
  · rename_i v a t0
    obtain ⟨m, t1, rfl, h5, h6⟩ := h2.cons
    obtain ⟨m2, t2, rfl, h7, h8⟩ := h6.cons
    cases (show m2 = vr a from h7)
    split at h
    · rename_i kc kn F A ho
      rw [q7_eq] at ho
      obtain ⟨w1, w2, w3⟩ := h4.2.2 a _ ho
      cases hc : (Nat.beq kc a2 && (Nat.beq kn 0 && okG a1 v)) with
      | false => rw [show (Nat.beq kc (pc, Instr.putfield idx, 3, a1, a2, a3).2.2.2.2.1 && (Nat.beq kn 0 && okG (pc, Instr.putfield idx, 3, a1, a2, a3).2.2.2.1 v)) = false from hc] at h; cases h
      | true =>
        rw [show (Nat.beq kc (pc, Instr.putfield idx, 3, a1, a2, a3).2.2.2.2.1 && (Nat.beq kn 0 && okG (pc, Instr.putfield idx, 3, a1, a2, a3).2.2.2.1 v)) = true from hc, cond_true] at h
        rw [Bool.and_eq_true, Bool.and_eq_true, beq_iff, beq_iff] at hc
        obtain ⟨rfl, rfl, hg⟩ := hc
        have hka : K a = (kc, 0) := w2
        have hin := isN_cls hk20
        obtain ⟨F2, hgo, -, hF2⟩ := fsetK_ok _ _ _ _ h
        rw [bsetK_eq] at hgo
        have hF2 : ∀ i, fget i F2 = if i = a3 then some v else fget i F := hF2
        rcases okG_1 hg h5 with ⟨rfl, x, rfl⟩ | ⟨rfl, x, rfl, hx⟩ | ⟨rfl, x, rfl⟩
        · obtain ⟨n9, r9, M9, q1, q2⟩ := S.next hgo ρ ls2 t2 fs2 (s0, u0, K, R, up I a a3 x) hC h1 h8 h3 (h4.putI ho hin hF2 h5)
          exact ⟨n9 + 1, r9, M9, ⟨q1.mono, _, _, S.row.1, Or.inr ⟨rfl, 1, kc, a3, a, t2, _, _, rfl, hp, hka, hf, Or.inl ⟨rfl, x, rfl, rfl⟩, q1⟩⟩, q2⟩
        · obtain ⟨n9, r9, M9, q1, q2⟩ := S.next hgo ρ ls2 t2 fs2 (s0, u0, K, R, up I a a3 x) hC h1 h8 h3 (h4.putI ho hin hF2 h5)
          exact ⟨n9 + 1, r9, M9, ⟨q1.mono, _, _, S.row.1, Or.inr ⟨rfl, 2, kc, a3, a, t2, _, _, rfl, hp, hka, hf, Or.inr (Or.inl ⟨rfl, x, rfl, hx, rfl⟩), q1⟩⟩, q2⟩
        · obtain ⟨n9, r9, M9, q1, q2⟩ := S.next hgo ρ ls2 t2 fs2 (s0, u0, K, up R a a3 (some x), I) hC h1 h8 h3 (h4.putR ho hin hF2 h5)
          exact ⟨n9 + 1, r9, M9, ⟨q1.mono, _, _, S.row.1, Or.inr ⟨rfl, 3, kc, a3, a, t2, _, _, rfl, hp, hka, hf, Or.inr (Or.inr ⟨rfl, x, rfl, rfl⟩), q1⟩⟩, q2⟩
    · cases h
  · cases h
theorem nrmK_ok {ρ : Nat → Int} {C : CT} {w : VV} {m : MV} {k : VV → Bool} (h : nrmK C w k = true) (hC : BS ρ C) (r : VR ρ w m) : ∃ w2, k w2 = true ∧ VR ρ w2 m := by
  unfold nrmK at h
  split at h
  · rename_i i z
    cases hq : eqB (bnd C i.toNat).1 (bnd C i.toNat).2 with
    | false => rw [hq] at h; exact ⟨_, h, r⟩
    | true =>
      rw [hq, cond_true, fI_eq] at h
      rw [eqB_iff] at hq
      have hb := hC.2 i.toNat
      rcases r with ⟨h9, -⟩ | ⟨h9, -⟩ | ⟨-, r⟩ | ⟨h9, -⟩ | ⟨h9, -⟩ | ⟨h9, -⟩ | ⟨h9, -⟩ | ⟨h9, -⟩ <;> first | (cases h9; done) | skip
      refine ⟨_, h, ?_⟩
      subst r
      have e : ρ i.toNat = (bnd C i.toNat).1 := by omega
      rw [e]
      rfl
  · exact ⟨_, h, r⟩
theorem o_ald {ok : Nat → Bool} {i : Instr} (S : STP go k n (pc, i, len, a1, a2, a3) r) (hok : ∀ kc, ok kc = true → isN kc = true)
    (row : ∀ {ls t : List MV} {s0 u0 : Nat} {K : Nat → Nat × Nat} {R : Nat → Nat → Option Nat} {I : Nat → Nat → Int} {Q : Option MV → MM → Prop} (a m kc kn : Nat), ok kc = true → K a = (kc, kn) → m < kn → Wm D k (pc + len) ls (vi (I a m) :: t) (s0, u0, K, R, I) Q → Wm D k pc ls (vi ((m : Nat) : Int) :: vr a :: t) (s0, u0, K, R, I) Q)
    (h : x_ald ok go (pc, i, len, a1, a2, a3) D k (ops k) r ls st fs T s u C = true) : SemAt D k pc ls st fs T s u C := by
  intro ρ ls2 st2 fs2 M hC h1 h2 h3 h4
  obtain ⟨s0, u0, K, R, I⟩ := M
  unfold x_ald at h
  split at h
  · rename_i m a t0
    obtain ⟨m1, t1, rfl, h5, h6⟩ := h2.cons
    obtain ⟨m2, t2, rfl, h7, h8⟩ := h6.cons
    cases (show m2 = vr a from h7)
    cases (show m1 = vi ((m : Nat) : Int) from h5)
    split at h
    · rename_i kc kn F A ho
      rw [q7_eq] at ho
      obtain ⟨w1, w2, w3⟩ := h4.2.2 a _ ho
      cases hc : (ok kc && Nat.ble (Nat.succ m) kn) with
      | false => rw [hc] at h; cases h
      | true =>
        rw [hc, cond_true] at h
        rw [Bool.and_eq_true, ble_iff] at hc
        obtain ⟨c1, c2⟩ := hc
        have hce : CE ρ kc F A m (I a m) (R a m) := w3 m (Or.inr c2)
        refine row a m kc kn c1 w2 c2 ?_
        split at h
        · rw [fN_eq] at h
          obtain ⟨w2, q1, q2⟩ := nrmK_ok h hC (hce.1 (hok kc c1) rfl)
          exact S.next q1 ρ ls2 (vi (I a m) :: t2) fs2 _ hC h1 ⟨q2, h8⟩ h3 h4
        · exact S.next h ρ ls2 (vi (I a m) :: t2) fs2 _ hC h1 ⟨VR.any ρ _, h8⟩ h3 h4
    · cases h
  · cases h
theorem o_aald (S : STP go k n (pc, .aaload, len, a1, a2, a3) r) (hl : len = 1) (h : x_aald go (pc, .aaload, len, a1, a2, a3) D k (ops k) r ls st fs T s u C = true) : SemAt D k pc ls st fs T s u C := by
  subst hl
  intro ρ ls2 st2 fs2 M hC h1 h2 h3 h4
  obtain ⟨s0, u0, K, R, I⟩ := M
  unfold x_aald at h
  split at h
  · rename_i m a t0
    obtain ⟨m1, t1, rfl, h5, h6⟩ := h2.cons
    obtain ⟨m2, t2, rfl, h7, h8⟩ := h6.cons
    cases (show m2 = vr a from h7)
    cases (show m1 = vi ((m : Nat) : Int) from h5)
    split at h
    · rename_i kc kn F A ho
      rw [q7_eq] at ho
      obtain ⟨w1, w2, w3⟩ := h4.2.2 a _ ho
      cases hc : (Nat.beq kc 22 && Nat.ble (Nat.succ m) kn) with
      | false => rw [hc] at h; cases h
      | true =>
        rw [hc, cond_true] at h
        rw [Bool.and_eq_true, beq_iff, ble_iff] at hc
        obtain ⟨rfl, c2⟩ := hc
        have hce : CE ρ 22 F A m (I a m) (R a m) := w3 m (Or.inr c2)
        refine s_aald (x := R a m) S.row.1 (show K a = (22, kn) from w2) (by omega) (by omega) rfl ?_
        split at h
        · rename_i w hw
          cases ht : Nat.beq (ty w) 2 with
          | false => rw [ht] at h; cases h
          | true =>
            rw [ht, cond_true] at h
            exact S.next h ρ ls2 (vq (R a m) :: t2) fs2 _ hC h1 ⟨(hce.fld rfl hw).2 (beq_iff.mp ht), h8⟩ h3 h4
        · rename_i hw
          rw [((hce.2 rfl).1 hw).2]
          exact S.next h ρ ls2 (vn :: t2) fs2 _ hC h1 ⟨rfl, h8⟩ h3 h4
    · cases h
  · cases h
theorem o_ast {kc0 g : Nat} {i : Instr} (S : STP go k n (pc, i, len, a1, a2, a3) r) (hg12 : g = 1 ∨ g = 2) (hkn : isN kc0 = true)
    (row : ∀ {ls t : List MV} {s0 u0 : Nat} {K : Nat → Nat × Nat} {R : Nat → Nat → Option Nat} {I : Nat → Nat → Int} {Q : Option MV → MM → Prop} (a m kn : Nat) (x : Int), (g = 2 → x = 0 ∨ x = 1) → K a = (kc0, kn) → m < kn → Wm D k (pc + len) ls t (s0, u0, K, R, up I a m x) Q → Wm D k pc ls (vi x :: vi ((m : Nat) : Int) :: vr a :: t) (s0, u0, K, R, I) Q)
    (h : x_ast kc0 g go (pc, i, len, a1, a2, a3) D k (ops k) r ls st fs T s u C = true) : SemAt D k pc ls st fs T s u C := by
  intro ρ ls2 st2 fs2 M hC h1 h2 h3 h4
  obtain ⟨s0, u0, K, R, I⟩ := M
  unfold x_ast at h
  split at h
  · rename_i v m a t0
    obtain ⟨m0, t9, rfl, h9, h10⟩ := h2.cons
    obtain ⟨m1, t1, rfl, h5, h6⟩ := h10.cons
    obtain ⟨m2, t2, rfl, h7, h8⟩ := h6.cons
    cases (show m2 = vr a from h7)
    cases (show m1 = vi ((m : Nat) : Int) from h5)
    split at h
    · rename_i kc kn F A ho
      rw [q7_eq] at ho
      obtain ⟨w1, w2, w3⟩ := h4.2.2 a _ ho
      cases hc : (Nat.beq kc kc0 && (Nat.ble (Nat.succ m) kn && okG g v)) with
      | false => rw [hc] at h; cases h
      | true =>
        rw [hc, cond_true] at h
        rw [Bool.and_eq_true, Bool.and_eq_true, beq_iff, ble_iff] at hc
        obtain ⟨rfl, c2, c4⟩ := hc
        split at h
        · split at h
          · rename_i c he
            rw [fN_eq, bsetK_eq] at h
            rcases okG_1 c4 h9 with ⟨rfl, x, rfl⟩ | ⟨rfl, x, rfl, hx⟩ | ⟨rfl, x, rfl⟩
            · exact row a m kn x (fun q => by cases q) w2 c2 (S.next h ρ ls2 t2 fs2 _ hC h1 h8 h3 (h4.putN ho hkn he h9))
            · exact row a m kn x (fun _ => hx) w2 c2 (S.next h ρ ls2 t2 fs2 _ hC h1 h8 h3 (h4.putN ho hkn he h9))
            · rcases hg12 with q | q <;> cases q
          · cases h
        · cases h
    · cases h
  · cases h
theorem o_aast (S : STP go k n (pc, .aastore, len, a1, a2, a3) r) (hl : len = 1) (h : x_aast go (pc, .aastore, len, a1, a2, a3) D k (ops k) r ls st fs T s u C = true) : SemAt D k pc ls st fs T s u C := by
  subst hl
  intro ρ ls2 st2 fs2 M hC h1 h2 h3 h4
  obtain ⟨s0, u0, K, R, I⟩ := M
  unfold x_aast at h
  split at h
  · rename_i x m a t0
    obtain ⟨m0, t9, rfl, h9, h10⟩ := h2.cons
    obtain ⟨m1, t1, rfl, h5, h6⟩ := h10.cons
    obtain ⟨m2, t2, rfl, h7, h8⟩ := h6.cons
    cases (show m2 = vr a from h7)
    cases (show m1 = vi ((m : Nat) : Int) from h5)
    cases (show m0 = vr x from h9)
    split at h
    · rename_i kc kn F A xc xn z1 z2 ho hx
      rw [q7_eq] at ho hx
      obtain ⟨w1, w2, w3⟩ := h4.2.2 a _ ho
      obtain ⟨-, x2, -⟩ := h4.2.2 x _ hx
      cases hc : (Nat.beq kc 22 && (Nat.ble (Nat.succ m) kn && (Nat.beq xc 10 && Nat.beq xn 0))) with
      | false => rw [hc] at h; cases h
      | true =>
        rw [hc, cond_true] at h
        obtain ⟨F2, h, -, hF2⟩ := fsetK_ok _ _ _ _ h
        rw [bsetK_eq] at h
        rw [Bool.and_eq_true, Bool.and_eq_true, Bool.and_eq_true, beq_iff, ble_iff, beq_iff, beq_iff] at hc
        obtain ⟨rfl, c2, rfl, rfl⟩ := hc
        exact s_aast S.row.1 (show K a = (22, kn) from w2) x2 (by omega) (by omega) rfl (S.next h ρ ls2 t2 fs2 _ hC h1 h8 h3 (h4.putR ho rfl hF2 rfl))
    · cases h
  · cases h
theorem o_alen (S : STP go k n (pc, .arraylength, len, a1, a2, a3) r) (hl : len = 1) (h : x_alen go (pc, .arraylength, len, a1, a2, a3) D k (ops k) r ls st fs T s u C = true) : SemAt D k pc ls st fs T s u C := by
  subst hl
  intro ρ ls2 st2 fs2 M hC h1 h2 h3 h4
  obtain ⟨s0, u0, K, R, I⟩ := M
  unfold x_alen at h
  split at h
  · rename_i a t0
    obtain ⟨m2, t2, rfl, h7, h8⟩ := h2.cons
    cases (show m2 = vr a from h7)
    split at h
    · rename_i kc kn z1 z2 ho
      rw [q7_eq] at ho
      obtain ⟨w1, w2, w3⟩ := h4.2.2 a _ ho
      cases hc : (Nat.ble 20 kc && Nat.ble kc 23) with
      | false => rw [hc] at h; cases h
      | true =>
        rw [hc, cond_true] at h
        rw [Bool.and_eq_true, ble_iff, ble_iff] at hc
        exact s_alen S.row.1 w2 (by omega) (S.next h ρ ls2 (vi (kn : Int) :: t2) fs2 _ hC h1 ⟨rfl, h8⟩ h3 h4)
    · cases h
  · cases h
theorem o_newa {kc : Nat} {i : Instr} (S : STP go k n (pc, i, len, a1, a2, a3) r)
    (row : ∀ {ls t : List MV} {s0 u0 : Nat} {K : Nat → Nat × Nat} {R : Nat → Nat → Option Nat} {I : Nat → Nat → Int} {Q : Option MV → MM → Prop} (m : Nat), m ≤ 100000 → Wm D k (pc + len) ls (vr s0 :: t) (s0 + 1, u0 + m, upk K s0 (kc, m), upz R s0 none, upz I s0 0) Q → Wm D k pc ls (vi ((m : Nat) : Int) :: t) (s0, u0, K, R, I) Q)
    (h : x_newa kc go (pc, i, len, a1, a2, a3) D k (ops k) r ls st fs T s u C = true) : SemAt D k pc ls st fs T s u C := by
  intro ρ ls2 st2 fs2 M hC h1 h2 h3 h4
  obtain ⟨s0, u0, K, R, I⟩ := M
  unfold x_newa at h
  split at h
  · rename_i m t0
    obtain ⟨m1, t2, rfl, h5, h8⟩ := h2.cons
    cases (show m1 = vi ((m : Nat) : Int) from h5)
    cases hc : (Nat.ble m 100000 && Nat.ble (Nat.succ s) 128) with
    | false => rw [hc] at h; cases h
    | true =>
      rw [hc, cond_true, bsetK_eq, fN_eq, fN_eq] at h
      rw [Bool.and_eq_true, ble_iff, ble_iff] at hc
      have hs0 : s0 = s := h4.1
      refine row m hc.1 (S.next h ρ ls2 (vr s0 :: t2) fs2 _ hC h1 ⟨by rw [hs0]; rfl, h8⟩ h3 (h4.new hc.2))
  · cases h
theorem o_new {idx : Nat} (S : STP go k n (pc, .new idx, len, a1, a2, a3) r) (hl : len = 3) (hp : pool (mcls k) idx = some (5, a2, a3)) (h : x_new go (pc, .new idx, len, a1, a2, a3) D k (ops k) r ls st fs T s u C = true) : SemAt D k pc ls st fs T s u C := by
  subst hl
  intro ρ ls2 st2 fs2 M hC h1 h2 h3 h4
  obtain ⟨s0, u0, K, R, I⟩ := M
  unfold x_new at h
  cases hc : Nat.ble (Nat.succ s) 128 with
  | false => rw [hc] at h; cases h
  | true =>
    rw [hc, cond_true, bsetK_eq, fN_eq, fN_eq] at h
    rw [ble_iff] at hc
    have hs0 : s0 = s := h4.1
    exact s_new S.row.1 hp (S.next h ρ ls2 (vr s0 :: st2) fs2 _ hC h1 ⟨by rw [hs0]; rfl, h2⟩ h3 (h4.new hc))
end
