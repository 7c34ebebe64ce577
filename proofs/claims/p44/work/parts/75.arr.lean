/-! THE CHECKER: rows, long numbers, the rest of the plain instructions -/
section
variable {Y : Nat → TYE} {PS : PST} {dep : Nat → List EF} {E : List EF} {Γ0 : Nat → Nat} {M0 : MM} {d k : Nat} {Post : Option MV → MM → Prop} {go : GE} {n : Nat}
variable {pc len a1 a2 a3 : Nat} {i : Instr} {r : List OE} {S : SE}
/-- the index is within a row of T -/
def ixB (T : TYE) (p : Int × Int) : Bool := not (ltB p.1 0) && ltB p.2 (Int.ofNat T.2.1)
theorem ixB_ok {T : TYE} {p : Int × Int} {x : Int} (h : ixB T p = true) (h1 : p.1 ≤ x) (h2 : x ≤ p.2) : 0 ≤ x ∧ x < (T.2.1 : Int) ∧ p.1.toNat ≤ x.toNat ∧ x.toNat < p.2.toNat + 1 := by
  unfold ixB at h
  rw [Bool.and_eq_true, Bool.not_eq_true', ltB_f, ltB_iff] at h
  have : p.2 < (T.2.1 : Int) := h.2
  omega
/-- reads rows of numbers of the kinds ok -/
def e_ald (Y : Nat → TYE) (ok : Nat → Bool) (go : GE) (n : Nat) (S : SE) : Bool := match S.2.1 with
  | x :: v :: t => ((isI x && Nat.beq v.1 2) && (ok (Y v.2.2.1).1 && ixB (Y v.2.2.1) (ivl S.2.2.1 x))) && e_rdI Y x (ivl S.2.2.1 x).1.toNat ((ivl S.2.2.1 x).2.toNat + 1) v t go n S
  | _ => false
theorem q_ald (hR : PSfr PS) (hTy : PSty Y PS) {ok : Nat → Bool} (hok : ok 98 = false) (Q : SQ Y PS E Γ0 M0 d k Post go n (pc, i, 1, a1, a2, a3) r)
    (row : ∀ {ls t : List MV} {s u : Nat} {K : Nat → Nat × Nat} {R : Nat → Nat → Option Nat} {I : Nat → Nat → Int} {Q : Option MV → MM → Prop} {a m kc : Nat} {x : Int}, ok kc = true → K a = (kc, m) → 0 ≤ x → x < (m : Int) → Wm d k (pc + 1) ls (vi (I a x.toNat) :: t) (s, u, K, R, I) Q → Wm d k pc ls (vi x :: vr a :: t) (s, u, K, R, I) Q)
    (h : e_ald Y ok go n S = true) : TRU Y PS E Γ0 M0 d k Post pc S := by
  obtain ⟨ls, st, S3⟩ := S
  intro ρ α Γ M ls2 st2 r
  match st, h, r with
  | [], h, _ => cases h
  | [_], h, _ => cases h
  | x :: v :: t, h, r =>
    obtain ⟨h1, h2⟩ := bb2 (show (((isI x && Nat.beq v.1 2) && (ok (Y v.2.2.1).1 && ixB (Y v.2.2.1) (ivl S3.1 x))) && e_rdI Y x (ivl S3.1 x).1.toNat ((ivl S3.1 x).2.toNat + 1) v t go n (ls, x :: v :: t, S3)) = true from h)
    obtain ⟨h1, h3⟩ := bb2 h1
    obtain ⟨h1, hv⟩ := bb2 h1
    obtain ⟨h3, h4⟩ := bb2 h3
    obtain ⟨mx, t1, rfl, h5, h6⟩ := ARs.cons r.2.2.2.1
    obtain ⟨mv, t2, rfl, h7, h8⟩ := ARs.cons h6
    cases h5.int h1
    obtain ⟨rfl, g1, g2⟩ := h7.ref (beq_iff.mp hv)
    have hK := KD_k (r.1 (α v.2.1) (by rw [g1]; exact g2)).2.1 (by rw [g1]; intro q; rw [q, hok] at h3; cases h3)
    rw [g1] at hK
    have hb := ivl_ok r.2.1 h1
    obtain ⟨i1, i2, i3, i4⟩ := ixB_ok h4 hb.1 hb.2
    obtain ⟨ρ2, S1, b1, b2⟩ := rdI_go hR hTy (t2 := t2) h2 (beq_iff.mp hv) ⟨g1, g2⟩ h1 i1 i3 i4 r (fun ρ2 q => q.2.2)
    obtain ⟨s0, u0, K, R, I⟩ := M
    exact row h3 hK i1 i2 (Q.next b1 ρ2 α Γ _ ls2 _ b2)
/-- writes rows of numbers of the kind kc -/
def e_ast (Y : Nat → TYE) (dep : Nat → List EF) (E : List EF) (kc : Nat) (z : Bool) (go : GE) (n : Nat) (S : SE) : Bool := match S.2.1 with
  | w :: x :: v :: t => (((isI w && isI x) && Nat.beq v.1 2) && ((Nat.beq (Y v.2.2.1).1 kc && ixB (Y v.2.2.1) (ivl S.2.2.1 x)) && (not z || is01 (ivl S.2.2.1 w)))) &&
      (((fitI (Y v.2.2.1) (ivl S.2.2.1 x).1.toNat ((ivl S.2.2.1 x).2.toNat + 1) (ivl S.2.2.1 w) || fitC Y S.2.2.2.2.2.1 v.2.2.1 (ivl S.2.2.1 x).1.toNat ((ivl S.2.2.1 x).2.toNat + 1) x w) && efIn (v.2.2.1, (ivl S.2.2.1 x).1.toNat, (ivl S.2.2.1 x).2.toNat + 1) E) &&
      go (n + 1) (S.1, t, aftH dep (v.2.2.1, (ivl S.2.2.1 x).1.toNat, (ivl S.2.2.1 x).2.toNat + 1) v x w S.2.2))
  | _ => false
theorem q_ast (hPS : PSok Y PS dep) (hH : PSho PS) (hTy : PSty Y PS) {kc : Nat} {z : Bool} (hkc : kc ≠ 98) (Q : SQ Y PS E Γ0 M0 d k Post go n (pc, i, 1, a1, a2, a3) r)
    (row : ∀ {ls t : List MV} {s u : Nat} {K : Nat → Nat × Nat} {R : Nat → Nat → Option Nat} {I : Nat → Nat → Int} {Q : Option MV → MM → Prop} {a m : Nat} {x y : Int}, K a = (kc, m) → 0 ≤ x → x < (m : Int) → (z = true → y = 0 ∨ y = 1) → Wm d k (pc + 1) ls t (s, u, K, R, up I a x.toNat y) Q → Wm d k pc ls (vi y :: vi x :: vr a :: t) (s, u, K, R, I) Q)
    (h : e_ast Y dep E kc z go n S = true) : TRU Y PS E Γ0 M0 d k Post pc S := by
  obtain ⟨ls, st, S3⟩ := S
  intro ρ α Γ M ls2 st2 r
  match st, h, r with
  | [], h, _ => cases h
  | [_], h, _ => cases h
  | [_, _], h, _ => cases h
  | w :: x :: v :: t, h, r =>
    obtain ⟨h1, h2⟩ := bb2 (show ((((isI w && isI x) && Nat.beq v.1 2) && ((Nat.beq (Y v.2.2.1).1 kc && ixB (Y v.2.2.1) (ivl S3.1 x)) && (not z || is01 (ivl S3.1 w)))) &&
      (((fitI (Y v.2.2.1) (ivl S3.1 x).1.toNat ((ivl S3.1 x).2.toNat + 1) (ivl S3.1 w) || fitC Y S3.2.2.2.1 v.2.2.1 (ivl S3.1 x).1.toNat ((ivl S3.1 x).2.toNat + 1) x w) && efIn (v.2.2.1, (ivl S3.1 x).1.toNat, (ivl S3.1 x).2.toNat + 1) E) &&
      go (n + 1) (ls, t, aftH dep (v.2.2.1, (ivl S3.1 x).1.toNat, (ivl S3.1 x).2.toNat + 1) v x w S3))) = true from h)
    obtain ⟨h1, h3⟩ := bb2 h1
    obtain ⟨h1, hv⟩ := bb2 h1
    obtain ⟨h1, hx⟩ := bb2 h1
    obtain ⟨h3, h01⟩ := bb2 h3
    obtain ⟨h3, h4⟩ := bb2 h3
    obtain ⟨h2, hgo⟩ := bb2 h2
    obtain ⟨hfit, hef⟩ := bb2 h2
    obtain ⟨mw, t0, rfl, h9, h10⟩ := ARs.cons r.2.2.2.1
    obtain ⟨mx, t1, rfl, h5, h6⟩ := ARs.cons h10
    obtain ⟨mv, t2, rfl, h7, h8⟩ := ARs.cons h6
    cases h9.int h1
    cases h5.int hx
    obtain ⟨rfl, g1, g2⟩ := h7.ref (beq_iff.mp hv)
    have hK := KD_k (r.1 (α v.2.1) (by rw [g1]; exact g2)).2.1 (by rw [g1, beq_iff.mp h3]; exact hkc)
    rw [g1, beq_iff.mp h3] at hK
    have hb := ivl_ok r.2.1 hx
    have hbw := ivl_ok r.2.1 h1
    obtain ⟨i1, i2, i3, i4⟩ := ixB_ok h4 hb.1 hb.2
    obtain ⟨s0, u0, K, R, I⟩ := M
    have r8 : REL Y PS E Γ0 M0 ρ α Γ (s0, u0, K, R, I) (ls, t, S3) ls2 t2 := ⟨r.1, r.2.1, r.2.2.1, h8, r.2.2.2.2⟩
    have hfit2 : ∀ r ∈ (Y v.2.2.1).2.2.1, r.1 ≤ (iv ρ x).toNat → (iv ρ x).toNat < r.2.1 → r.2.2.1 ≤ iv ρ w ∧ iv ρ w ≤ r.2.2.2 := by
      rw [Bool.or_eq_true] at hfit
      rcases hfit with hfit | hfit
      · exact fitI_ok hfit i3 i4 hbw
      · exact fitC_ok hTy r.2.2.2.2.2.1 hfit (by omega) (by omega)
    have q := put_ok hPS hH (v := v) (w := w) (idx := x) r8 ⟨g1, g2⟩ hx h1 i1 i3 i4 hfit2 hef
    refine row hK i1 i2 (fun hz => ?_) (Q.next hgo ρ α Γ _ ls2 t2 q)
    subst hz
    exact is01_ok h01 hbw.1 hbw.2
def e_alen (Y : Nat → TYE) (go : GE) (n : Nat) (S : SE) : Bool := match S.2.1 with
  | v :: t => (Nat.beq v.1 2 && (Nat.ble 20 (Y v.2.2.1).1 && Nat.ble (Y v.2.2.1).1 23)) && go (n + 1) (S.1, aC (Int.ofNat (Y v.2.2.1).2.1) :: t, S.2.2)
  | _ => false
theorem q_alen (Q : SQ Y PS E Γ0 M0 d k Post go n (pc, .arraylength, 1, a1, a2, a3) r) (h : e_alen Y go n S = true) : TRU Y PS E Γ0 M0 d k Post pc S := by
  obtain ⟨ls, st, S3⟩ := S
  intro ρ α Γ M ls2 st2 r
  match st, h, r with
  | [], h, _ => cases h
  | v :: t, h, r =>
    obtain ⟨h1, h2⟩ := bb2 (show ((Nat.beq v.1 2 && (Nat.ble 20 (Y v.2.2.1).1 && Nat.ble (Y v.2.2.1).1 23)) && go (n + 1) (ls, aC (Int.ofNat (Y v.2.2.1).2.1) :: t, S3)) = true from h)
    obtain ⟨hv, h3⟩ := bb2 h1
    obtain ⟨h3, h4⟩ := bb2 h3
    obtain ⟨mv, t2, rfl, h7, h8⟩ := ARs.cons r.2.2.2.1
    obtain ⟨rfl, g1, g2⟩ := h7.ref (beq_iff.mp hv)
    have hK := KD_k (r.1 (α v.2.1) (by rw [g1]; exact g2)).2.1 (by rw [g1]; have := ble_iff.mp h3; have := ble_iff.mp h4; omega)
    rw [g1] at hK
    have b1 := ble_iff.mp h3
    have b2 := ble_iff.mp h4
    obtain ⟨s0, u0, K, R, I⟩ := M
    exact s_alen Q.row.1 hK (by omega) (Q.next h2 ρ α Γ _ ls2 _ ⟨r.1, r.2.1, r.2.2.1, ⟨rfl, h8⟩, r.2.2.2.2⟩)
/-! long numbers -/
def isL (v : AV) : Bool := Nat.beq v.1 4
theorem AR.lng {ρ : Nat → Int} {α Γ : Nat → Nat} {v : AV} {m : MV} (h : isL v = true) (r : AR ρ α Γ v m) : ∃ x, m = vl x ∧ (v.2.2.1 = 1 → x ≠ 0) := by
  unfold AR at r
  rw [beq_iff.mp h] at r
  exact r.2
/-- a long number that has a name -/
def isT (v : AV) : Bool := Nat.beq v.1 4 && Nat.beq v.2.2.1 2
def toN (v : AV) : AV := (1, v.2.1, 0, v.2.2.2)
theorem AR.lgt {ρ : Nat → Int} {α Γ : Nat → Nat} {v : AV} {m : MV} (h : isT v = true) (r : AR ρ α Γ v m) : m = vl (iv ρ (toN v)) := by
  obtain ⟨h1, h2⟩ := bb2 h
  unfold AR at r
  rw [beq_iff.mp h1] at r
  exact r.1 (beq_iff.mp h2)
theorem AR.ofT {ρ : Nat → Int} {α Γ : Nat → Nat} {i : Nat} {c x : Int} (h : ρ i + c = x) : AR ρ α Γ (4, i, 2, c) (vl x) := ⟨fun _ => by rw [h], x, rfl, fun q => by cases q⟩
abbrev LB : Int × Int := (-9223372036854775808, 9223372036854775807)
abbrev aL : AV := (4, 0, 0, 0)
def e_lbin0 (nz : Bool) (go : GE) (n : Nat) (S : SE) : Bool := match S.2.1 with
  | y :: x :: t => ((isL y && isL x) && (not nz || Nat.beq y.2.2.1 1)) && go (n + 1) (S.1, aL :: t, S.2.2)
  | _ => false
theorem q_lbin0 {nz : Bool} {op : Int → Int → Int} (Q : SQ Y PS E Γ0 M0 d k Post go n (pc, i, len, a1, a2, a3) r) (row : ∀ {ls t : List MV} {M : MM} {Q : Option MV → MM → Prop} {x y : Int}, (nz = true → y ≠ 0) → Wm d k (pc + len) ls (vl (op x y) :: t) M Q → Wm d k pc ls (vl y :: vl x :: t) M Q) (h : e_lbin0 nz go n S = true) : TRU Y PS E Γ0 M0 d k Post pc S := by
  obtain ⟨ls, st, S3⟩ := S
  intro ρ α Γ M ls2 st2 r
  match st, h, r with
  | [], h, _ => cases h
  | [_], h, _ => cases h
  | y :: x :: t, h, r =>
    obtain ⟨h1, h2⟩ := bb2 (show (((isL y && isL x) && (not nz || Nat.beq y.2.2.1 1)) && go (n + 1) (ls, aL :: t, S3)) = true from h)
    obtain ⟨h1, h3⟩ := bb2 h1
    obtain ⟨h1, h4⟩ := bb2 h1
    obtain ⟨my, t1, rfl, h5, h6⟩ := ARs.cons r.2.2.2.1
    obtain ⟨mx, t2, rfl, h7, h8⟩ := ARs.cons h6
    obtain ⟨y1, rfl, hy⟩ := h5.lng h1
    obtain ⟨x1, rfl, -⟩ := h7.lng h4
    refine row (fun hz => hy ?_) (Q.next h2 ρ α Γ M ls2 _ ⟨r.1, r.2.1, r.2.2.1, ⟨⟨fun q => (by cases q), _, rfl, fun q => (by cases q)⟩, h8⟩, r.2.2.2.2⟩)
    subst hz
    exact beq_iff.mp h3
/-- a name for what comes of two long numbers that have names -/
def e_lbinT (nz : Bool) (id : Nat) (go : GE) (n : Nat) (S : SE) : Bool := match S.2.1 with
  | y :: x :: t => ((isT y && isT x) && (not nz || ltB 0 (ivl S.2.2.1 (toN y)).1)) && nmI LB S (fun v S2 => go (n + 1) (S.1, (4, v.2.1, 2, 0) :: t, S2.2.2.1, S2.2.2.2.1, S2.2.2.2.2.1, (id, [toN x, toN y, v]) :: S2.2.2.2.2.2.1, S2.2.2.2.2.2.2))
  | _ => false
def twoT (S : SE) : Bool := match S.2.1 with
  | y :: x :: _ => isT y && isT x
  | _ => false
theorem q_lbinT {nz : Bool} {id : Nat} {op : Int → Int → Int} (hop : ∀ x y, inL (op x y)) (hdf : ∀ (x y : Int) (Γ : Nat → Nat) (M : MM), PS id [vi x, vi y, vi (op x y)] Γ M) (Q : SQ Y PS E Γ0 M0 d k Post go n (pc, i, len, a1, a2, a3) r) (row : ∀ {ls t : List MV} {M : MM} {Q : Option MV → MM → Prop} {x y : Int}, (nz = true → y ≠ 0) → Wm d k (pc + len) ls (vl (op x y) :: t) M Q → Wm d k pc ls (vl y :: vl x :: t) M Q) (h : e_lbinT nz id go n S = true) : TRU Y PS E Γ0 M0 d k Post pc S := by
  obtain ⟨ls, st, S3⟩ := S
  intro ρ α Γ M ls2 st2 r
  match st, h, r with
  | [], h, _ => cases h
  | [_], h, _ => cases h
  | y :: x :: t, h, r =>
    obtain ⟨h1, h2⟩ := bb2 (show (((isT y && isT x) && (not nz || ltB 0 (ivl S3.1 (toN y)).1)) && nmI LB (ls, y :: x :: t, S3) (fun v S2 => go (n + 1) (ls, (4, v.2.1, 2, 0) :: t, S2.2.2.1, S2.2.2.2.1, S2.2.2.2.2.1, (id, [toN x, toN y, v]) :: S2.2.2.2.2.2.1, S2.2.2.2.2.2.2))) = true from h)
    obtain ⟨h1, h3⟩ := bb2 h1
    obtain ⟨h1, h4⟩ := bb2 h1
    obtain ⟨my, t1, rfl, h5, h6⟩ := ARs.cons r.2.2.2.1
    obtain ⟨mx, t2, rfl, h7, h8⟩ := ARs.cons h6
    cases h5.lgt h1
    cases h7.lgt h4
    have hw := hop (iv ρ (toN x)) (iv ρ (toN y))
    unfold inL at hw
    have hby : (ivl S3.1 (toN y)).1 ≤ iv ρ (toN y) := (ivl_ok r.2.1 rfl).1
    obtain ⟨ρ2, w, S2, b1, b2, b3, b4, b5, b6, b7⟩ := nmI_ok (x := op (iv ρ (toN x)) (iv ρ (toN y))) h2 r hw.1 (by show _ ≤ 9223372036854775807; omega)
    subst b4
    subst b5
    obtain ⟨hy2, hx2, h12⟩ := b7.2.2.2.1
    have e1 : iv ρ2 (toN y) = iv ρ (toN y) := by
      have := hy2.lgt h1
      exact (Sum.inl.inj (Sum.inr.inj this)).symm
    have e2 : iv ρ2 (toN x) = iv ρ (toN x) := by
      have := hx2.lgt h4
      exact (Sum.inl.inj (Sum.inr.inj this)).symm
    refine row (fun hz => ?_) (Q.next b1 ρ2 α Γ M ls2 _ ⟨b7.1, b7.2.1, b7.2.2.1, ⟨AR.ofT b3, h12⟩, b7.2.2.2.2.1, fun p hp => ?_, b7.2.2.2.2.2.2⟩)
    · rw [hz] at h3
      have h3 : ltB 0 (ivl S3.1 (toN y)).1 = true := h3
      rw [ltB_iff] at h3
      omega
    · rcases List.mem_cons.mp hp with hp | hp
      · subst hp
        show PS id [vi (iv ρ2 (toN x)), vi (iv ρ2 (toN y)), vi (iv ρ2 (1, S3.1.length, 0, 0))] Γ M
        rw [e1, e2, b3]
        exact hdf _ _ _ _
      · exact b7.2.2.2.2.2.1 p hp
def e_lbin (nz : Bool) (id : Nat) (go : GE) (n : Nat) (S : SE) : Bool := cond (twoT S && not (Nat.beq id 0)) (e_lbinT nz id go n S) (e_lbin0 nz go n S)
theorem q_lbin {nz : Bool} {id : Nat} {op : Int → Int → Int} (hop : ∀ x y, inL (op x y)) (hdf : id ≠ 0 → ∀ (x y : Int) (Γ : Nat → Nat) (M : MM), PS id [vi x, vi y, vi (op x y)] Γ M) (Q : SQ Y PS E Γ0 M0 d k Post go n (pc, i, len, a1, a2, a3) r) (row : ∀ {ls t : List MV} {M : MM} {Q : Option MV → MM → Prop} {x y : Int}, (nz = true → y ≠ 0) → Wm d k (pc + len) ls (vl (op x y) :: t) M Q → Wm d k pc ls (vl y :: vl x :: t) M Q) (h : e_lbin nz id go n S = true) : TRU Y PS E Γ0 M0 d k Post pc S := by
  unfold e_lbin at h
  cases hc : (twoT S && not (Nat.beq id 0)) with
  | true =>
    rw [hc, cond_true] at h
    have h0 : id ≠ 0 := fun q => by
      have := (bb2 hc).2
      rw [q] at this
      cases this
    exact q_lbinT hop (hdf h0) Q row h
  | false =>
    rw [hc, cond_false] at h
    exact q_lbin0 Q row h
def e_lremT (go : GE) (n : Nat) (S : SE) : Bool := match S.2.1 with
  | y :: x :: t => ((isT y && isT x) && ltB 0 (ivl S.2.2.1 (toN y)).1) && nmI (-(ivl S.2.2.1 (toN y)).2, (ivl S.2.2.1 (toN y)).2) S (fun v S2 => go (n + 1) (S.1, (4, v.2.1, 2, 0) :: t, S2.2.2.1, S2.2.2.2.1, S2.2.2.2.2.1, (714, [toN x, toN y, v]) :: S2.2.2.2.2.2.1, S2.2.2.2.2.2.2))
  | _ => false
def e_lrem (go : GE) (n : Nat) (S : SE) : Bool := cond (twoT S) (e_lremT go n S) (e_lbin0 true go n S)
theorem tmod_bd {x y : Int} (h : 0 < y) : -y < x.tmod y ∧ x.tmod y < y := by
  have h1 : x.tmod y < y := Int.tmod_lt_of_pos x h
  have h2 := Int.tmod_lt_of_pos (-x) h
  rw [Int.neg_tmod] at h2
  exact ⟨by omega, h1⟩
theorem q_lrem (hdf : ∀ (x y : Int) (Γ : Nat → Nat) (M : MM), PS 714 [vi x, vi y, vi (x.tmod y)] Γ M) (Q : SQ Y PS E Γ0 M0 d k Post go n (pc, .lrem, 1, a1, a2, a3) r) (h : e_lrem go n S = true) : TRU Y PS E Γ0 M0 d k Post pc S := by
  unfold e_lrem at h
  cases hc : twoT S with
  | false =>
    rw [hc, cond_false] at h
    have hd := Q.row.1
    exact q_lbin0 (op := Int.tmod) Q (fun {ls t M Q x y} hz kk => by obtain ⟨s0, u0, K, R, I⟩ := M; exact s_lrem hd (hz rfl) kk) h
  | true =>
    rw [hc, cond_true] at h
    obtain ⟨ls, st, S3⟩ := S
    intro ρ α Γ M ls2 st2 r
    match st, h, r with
    | [], h, _ => cases h
    | [_], h, _ => cases h
    | y :: x :: t, h, r =>
      obtain ⟨h1, h2⟩ := bb2 (show (((isT y && isT x) && ltB 0 (ivl S3.1 (toN y)).1) && nmI (-(ivl S3.1 (toN y)).2, (ivl S3.1 (toN y)).2) (ls, y :: x :: t, S3) (fun v S2 => go (n + 1) (ls, (4, v.2.1, 2, 0) :: t, S2.2.2.1, S2.2.2.2.1, S2.2.2.2.2.1, (714, [toN x, toN y, v]) :: S2.2.2.2.2.2.1, S2.2.2.2.2.2.2))) = true from h)
      obtain ⟨h1, h3⟩ := bb2 h1
      obtain ⟨h1, h4⟩ := bb2 h1
      rw [ltB_iff] at h3
      obtain ⟨my, t1, rfl, h5, h6⟩ := ARs.cons r.2.2.2.1
      obtain ⟨mx, t2, rfl, h7, h8⟩ := ARs.cons h6
      cases h5.lgt h1
      cases h7.lgt h4
      have hby : (ivl S3.1 (toN y)).1 ≤ iv ρ (toN y) ∧ iv ρ (toN y) ≤ (ivl S3.1 (toN y)).2 := ivl_ok r.2.1 rfl
      have hw := tmod_bd (x := iv ρ (toN x)) (y := iv ρ (toN y)) (by omega)
      obtain ⟨ρ2, w, S2, b1, b2, b3, b4, b5, b6, b7⟩ := nmI_ok (x := (iv ρ (toN x)).tmod (iv ρ (toN y))) h2 r (by show -(ivl S3.1 (toN y)).2 ≤ _; omega) (by show _ ≤ (ivl S3.1 (toN y)).2; omega)
      subst b4
      subst b5
      obtain ⟨hy2, hx2, h12⟩ := b7.2.2.2.1
      have e1 : iv ρ2 (toN y) = iv ρ (toN y) := by
        have := hy2.lgt h1
        exact (Sum.inl.inj (Sum.inr.inj this)).symm
      have e2 : iv ρ2 (toN x) = iv ρ (toN x) := by
        have := hx2.lgt h4
        exact (Sum.inl.inj (Sum.inr.inj this)).symm
      obtain ⟨s0, u0, K, R, I⟩ := M
      refine s_lrem Q.row.1 (by omega) (Q.next b1 ρ2 α Γ _ ls2 _ ⟨b7.1, b7.2.1, b7.2.2.1, ⟨AR.ofT b3, h12⟩, b7.2.2.2.2.1, fun p hp => ?_, b7.2.2.2.2.2.2⟩)
      rcases List.mem_cons.mp hp with hp | hp
      · subst hp
        show PS 714 [vi (iv ρ2 (toN x)), vi (iv ρ2 (toN y)), vi (iv ρ2 (1, S3.1.length, 0, 0))] Γ _
        rw [e1, e2, b3]
        exact hdf _ _ _ _
      · exact b7.2.2.2.2.2.1 p hp
def e_lun (go : GE) (n : Nat) (S : SE) : Bool := match S.2.1 with
  | x :: t => isL x && go (n + 1) (S.1, aL :: t, S.2.2)
  | _ => false
theorem q_lunP {op : Int → Int} {P : List MV → Prop} (hP : ∀ ρ α Γ t2, ARs ρ α Γ (S.2.1.drop 1) t2 → P t2) (Q : SQ Y PS E Γ0 M0 d k Post go n (pc, i, len, a1, a2, a3) r) (row : ∀ {ls t : List MV} {M : MM} {Q : Option MV → MM → Prop} {x : Int}, P t → Wm d k (pc + len) ls (vl (op x) :: t) M Q → Wm d k pc ls (vl x :: t) M Q) (h : e_lun go n S = true) : TRU Y PS E Γ0 M0 d k Post pc S := by
  obtain ⟨ls, st, S3⟩ := S
  intro ρ α Γ M ls2 st2 r
  match st, h, r with
  | [], h, _ => cases h
  | x :: t, h, r =>
    obtain ⟨h1, h2⟩ := bb2 (show (isL x && go (n + 1) (ls, aL :: t, S3)) = true from h)
    obtain ⟨mx, t2, rfl, h7, h8⟩ := ARs.cons r.2.2.2.1
    obtain ⟨x1, rfl, -⟩ := h7.lng h1
    exact row (hP ρ α Γ _ h8) (Q.next h2 ρ α Γ M ls2 _ ⟨r.1, r.2.1, r.2.2.1, ⟨⟨fun q => (by cases q), _, rfl, fun q => (by cases q)⟩, h8⟩, r.2.2.2.2⟩)
theorem q_lun {op : Int → Int} (Q : SQ Y PS E Γ0 M0 d k Post go n (pc, i, len, a1, a2, a3) r) (row : ∀ {ls t : List MV} {M : MM} {Q : Option MV → MM → Prop} {x : Int}, Wm d k (pc + len) ls (vl (op x) :: t) M Q → Wm d k pc ls (vl x :: t) M Q) (h : e_lun go n S = true) : TRU Y PS E Γ0 M0 d k Post pc S :=
  q_lunP (P := fun _ => True) (fun _ _ _ _ _ => trivial) Q (fun _ kk => row kk) h
/-- a long one and a number -/
def e_lshl (go : GE) (n : Nat) (S : SE) : Bool := match S.2.1 with
  | y :: x :: t => (isI y && isL x) && go (n + 1) (S.1, aL :: t, S.2.2)
  | _ => false
theorem q_lshl (Q : SQ Y PS E Γ0 M0 d k Post go n (pc, .lshl, 1, a1, a2, a3) r) (h : e_lshl go n S = true) : TRU Y PS E Γ0 M0 d k Post pc S := by
  obtain ⟨ls, st, S3⟩ := S
  intro ρ α Γ M ls2 st2 r
  match st, h, r with
  | [], h, _ => cases h
  | [_], h, _ => cases h
  | y :: x :: t, h, r =>
    obtain ⟨h1, h2⟩ := bb2 (show ((isI y && isL x) && go (n + 1) (ls, aL :: t, S3)) = true from h)
    obtain ⟨h1, h4⟩ := bb2 h1
    obtain ⟨my, t1, rfl, h5, h6⟩ := ARs.cons r.2.2.2.1
    obtain ⟨mx, t2, rfl, h7, h8⟩ := ARs.cons h6
    cases h5.int h1
    obtain ⟨x1, rfl, -⟩ := h7.lng h4
    obtain ⟨s0, u0, K, R, I⟩ := M
    exact s_lshl Q.row.1 (Q.next h2 ρ α Γ _ ls2 _ ⟨r.1, r.2.1, r.2.2.1, ⟨⟨fun q => (by cases q), _, rfl, fun q => (by cases q)⟩, h8⟩, r.2.2.2.2⟩)
def e_i2l (go : GE) (n : Nat) (S : SE) : Bool := match S.2.1 with
  | x :: t => cond (Nat.beq x.1 1) (go (n + 1) (S.1, (4, x.2.1, 2, x.2.2.2) :: t, S.2.2)) (Nat.beq x.1 0 && nmI (x.2.2.2, x.2.2.2) S (fun v S2 => go (n + 1) (S.1, (4, v.2.1, 2, 0) :: t, S2.2.2)))
  | _ => false
theorem q_i2l (Q : SQ Y PS E Γ0 M0 d k Post go n (pc, .i2l, 1, a1, a2, a3) r) (h : e_i2l go n S = true) : TRU Y PS E Γ0 M0 d k Post pc S := by
  obtain ⟨ls, st, S3⟩ := S
  intro ρ α Γ M ls2 st2 r
  match st, h, r with
  | [], h, _ => cases h
  | x :: t, h, r =>
    obtain ⟨mx, t2, rfl, h7, h8⟩ := ARs.cons r.2.2.2.1
    have h : cond (Nat.beq x.1 1) (go (n + 1) (ls, (4, x.2.1, 2, x.2.2.2) :: t, S3)) (Nat.beq x.1 0 && nmI (x.2.2.2, x.2.2.2) (ls, x :: t, S3) (fun v S2 => go (n + 1) (ls, (4, v.2.1, 2, 0) :: t, S2.2.2))) = true := h
    cases hc : Nat.beq x.1 1 with
    | true =>
      rw [hc, cond_true] at h
      have hx : x.1 = 1 := beq_iff.mp hc
      have hI : isI x = true := isI_iff.mpr (Or.inr hx)
      cases h7.int hI
      obtain ⟨s0, u0, K, R, I⟩ := M
      refine s_i2l Q.row.1 (Q.next h ρ α Γ _ ls2 _ ⟨r.1, r.2.1, r.2.2.1, ⟨AR.ofT ?_, h8⟩, r.2.2.2.2⟩)
      obtain ⟨t0, i0, a0, c0⟩ := x
      cases (show t0 = 1 from hx)
      rfl
    | false =>
      rw [hc, cond_false] at h
      obtain ⟨g1, g2⟩ := bb2 h
      have hx : x.1 = 0 := beq_iff.mp g1
      have hI : isI x = true := isI_iff.mpr (Or.inl hx)
      cases h7.int hI
      have e0 : iv ρ x = x.2.2.2 := iv_c g1
      obtain ⟨ρ2, w, S2, b1, b2, b3, b4, b5, b6, b7⟩ := nmI_ok (x := x.2.2.2) g2 r (Int.le_refl _) (Int.le_refl _)
      subst b4
      subst b5
      obtain ⟨s0, u0, K, R, I⟩ := M
      refine s_i2l Q.row.1 (Q.next b1 ρ2 α Γ _ ls2 _ ⟨b7.1, b7.2.1, b7.2.2.1, ⟨?_, b7.2.2.2.1.2⟩, b7.2.2.2.2⟩)
      rw [e0]
      exact AR.ofT b3
def e_l2i (go : GE) (n : Nat) (S : SE) : Bool := match S.2.1 with
  | x :: t => isL x && nmI FB S (fun v S2 => go (n + 1) (S.1, v :: t, S2.2.2.1, S2.2.2.2.1, S2.2.2.2.2.1, cond (isT x) [(716, [toN x, v])] [] ++ S2.2.2.2.2.2.1, S2.2.2.2.2.2.2))
  | _ => false
theorem q_l2i (hdf : ∀ (x : Int) (Γ : Nat → Nat) (M : MM), PS 716 [vi x, vi (wI x)] Γ M) (Q : SQ Y PS E Γ0 M0 d k Post go n (pc, .l2i, 1, a1, a2, a3) r) (h : e_l2i go n S = true) : TRU Y PS E Γ0 M0 d k Post pc S := by
  obtain ⟨ls, st, S3⟩ := S
  intro ρ α Γ M ls2 st2 r
  match st, h, r with
  | [], h, _ => cases h
  | x :: t, h, r =>
    obtain ⟨h1, h2⟩ := bb2 (show (isL x && nmI FB (ls, x :: t, S3) (fun v S2 => go (n + 1) (ls, v :: t, S2.2.2.1, S2.2.2.2.1, S2.2.2.2.2.1, cond (isT x) [(716, [toN x, v])] [] ++ S2.2.2.2.2.2.1, S2.2.2.2.2.2.2))) = true from h)
    obtain ⟨mx, t2, rfl, h7, h8⟩ := ARs.cons r.2.2.2.1
    obtain ⟨x1, rfl, -⟩ := h7.lng h1
    have hw := wI_in x1
    unfold inI at hw
    obtain ⟨ρ2, w, S2, b1, b2, b3, b4, b5, b6, b7⟩ := nmI_ok (x := wI x1) h2 r (by show -2147483648 ≤ _; omega) (by show _ ≤ 2147483647; omega)
    subst b4
    obtain ⟨s0, u0, K, R, I⟩ := M
    refine s_l2i Q.row.1 (Q.next b1 ρ2 α Γ _ ls2 _ ⟨b7.1, b7.2.1, b7.2.2.1, ⟨?_, b7.2.2.2.1.2⟩, b7.2.2.2.2.1, fun p hp => ?_, b7.2.2.2.2.2.2⟩)
    · rw [← b3]
      exact AR.ofI b2
    · rcases List.mem_append.mp hp with hp | hp
      · cases hT : isT x with
        | false => rw [hT] at hp; exact absurd hp List.not_mem_nil
        | true =>
          rw [hT] at hp
          cases List.mem_singleton.mp hp
          have e := b7.2.2.2.1.1.lgt hT
          have e := Sum.inl.inj (Sum.inr.inj e)
          show PS 716 [vi (iv ρ2 (toN x)), valO ρ2 α w] Γ _
          rw [valO_int b2, b3, ← e]
          exact hdf _ _ _
      · exact b7.2.2.2.2.2.1 p hp
def e_lcmp (go : GE) (n : Nat) (S : SE) : Bool := match S.2.1 with
  | y :: x :: t => (isL y && isL x) && nmI (-1, 1) S (fun v S2 => go (n + 1) (S.1, v :: t, S2.2.2.1, S2.2.2.2.1, S2.2.2.2.2.1, cond (isT y && isT x) [(715, [toN x, toN y, v])] [] ++ S2.2.2.2.2.2.1, S2.2.2.2.2.2.2))
  | _ => false
theorem lCm_bd (x y : Int) : -1 ≤ lCm x y ∧ lCm x y ≤ 1 := by
  unfold lCm
  split
  · omega
  · split <;> omega
theorem q_lcmpE (hdf : ∀ (x y : Int) (Γ : Nat → Nat) (M : MM), PS 715 [vi x, vi y, vi (lCm x y)] Γ M) (Q : SQ Y PS E Γ0 M0 d k Post go n (pc, .lcmp, 1, a1, a2, a3) r) (h : e_lcmp go n S = true) : TRU Y PS E Γ0 M0 d k Post pc S := by
  obtain ⟨ls, st, S3⟩ := S
  intro ρ α Γ M ls2 st2 r
  match st, h, r with
  | [], h, _ => cases h
  | [_], h, _ => cases h
  | y :: x :: t, h, r =>
    obtain ⟨h1, h2⟩ := bb2 (show ((isL y && isL x) && nmI (-1, 1) (ls, y :: x :: t, S3) (fun v S2 => go (n + 1) (ls, v :: t, S2.2.2.1, S2.2.2.2.1, S2.2.2.2.2.1, cond (isT y && isT x) [(715, [toN x, toN y, v])] [] ++ S2.2.2.2.2.2.1, S2.2.2.2.2.2.2))) = true from h)
    obtain ⟨h1, h4⟩ := bb2 h1
    obtain ⟨my, t1, rfl, h5, h6⟩ := ARs.cons r.2.2.2.1
    obtain ⟨mx, t2, rfl, h7, h8⟩ := ARs.cons h6
    obtain ⟨y1, rfl, -⟩ := h5.lng h1
    obtain ⟨x1, rfl, -⟩ := h7.lng h4
    obtain ⟨ρ2, w, S2, b1, b2, b3, b4, b5, b6, b7⟩ := nmI_ok (x := lCm x1 y1) h2 r (lCm_bd _ _).1 (lCm_bd _ _).2
    subst b4
    obtain ⟨s0, u0, K, R, I⟩ := M
    refine s_lcmp Q.row.1 (Q.next b1 ρ2 α Γ _ ls2 _ ⟨b7.1, b7.2.1, b7.2.2.1, ⟨?_, b7.2.2.2.1.2.2⟩, b7.2.2.2.2.1, fun p hp => ?_, b7.2.2.2.2.2.2⟩)
    · rw [← b3]
      exact AR.ofI b2
    · rcases List.mem_append.mp hp with hp | hp
      · cases hT : (isT y && isT x) with
        | false => rw [hT] at hp; exact absurd hp List.not_mem_nil
        | true =>
          rw [hT] at hp
          cases List.mem_singleton.mp hp
          have e := b7.2.2.2.1.1.lgt (bb2 hT).1
          have e := Sum.inl.inj (Sum.inr.inj e)
          have e2 := b7.2.2.2.1.2.1.lgt (bb2 hT).2
          have e2 := Sum.inl.inj (Sum.inr.inj e2)
          show PS 715 [vi (iv ρ2 (toN x)), vi (iv ρ2 (toN y)), valO ρ2 α w] Γ _
          rw [valO_int b2, b3, ← e, ← e2]
          exact hdf _ _ _ _
      · exact b7.2.2.2.2.2.1 p hp
/-- a long constant -/
def e_ldl (z : Int) (go : GE) (n : Nat) (S : SE) : Bool := nmI (z, z) S (fun v S2 => go (n + 1) (S.1, (4, v.2.1, 2, 0) :: S.2.1, S2.2.2))
theorem q_ldl {z : Int} (Q : SQ Y PS E Γ0 M0 d k Post go n (pc, i, len, a1, a2, a3) r) (row : ∀ {ls t : List MV} {M : MM} {Q : Option MV → MM → Prop}, Wm d k (pc + len) ls (vl z :: t) M Q → Wm d k pc ls t M Q) (h : e_ldl z go n S = true) : TRU Y PS E Γ0 M0 d k Post pc S := by
  obtain ⟨ls, st, S3⟩ := S
  intro ρ α Γ M ls2 st2 r
  obtain ⟨ρ2, w, S2, b1, b2, b3, b4, b5, b6, b7⟩ := nmI_ok (x := z) h r (Int.le_refl _) (Int.le_refl _)
  subst b4
  subst b5
  exact row (Q.next b1 ρ2 α Γ M ls2 _ ⟨b7.1, b7.2.1, b7.2.2.1, ⟨AR.ofT b3, b7.2.2.2.1⟩, b7.2.2.2.2⟩)
/-! the stack -/
def isW (v : AV) : Bool := Nat.ble v.1 3 || Nat.beq v.1 5
theorem AR.w1 {ρ : Nat → Int} {α Γ : Nat → Nat} {v : AV} {m : MV} (h : isW v = true) (r : AR ρ α Γ v m) : wd m = 1 := by
  obtain ⟨t, b, a, c⟩ := v
  match t, h, r with
  | 0, _, r => cases (show m = vi c from r); rfl
  | 1, _, r => cases (show m = vi _ from r); rfl
  | 2, _, r => cases (show m = vr _ ∧ _ from r).1; rfl
  | 3, _, r =>
    rcases (show m = vn ∨ (m = vr _ ∧ _) from r) with h | h
    · cases h; rfl
    · cases h.1; rfl
  | 4, h, _ => cases (show (Nat.ble 4 3 || Nat.beq 4 5) = true from h)
  | 5, _, r => cases (show m = vn from r); rfl
  | 6, h, _ => cases (show (Nat.ble 6 3 || Nat.beq 6 5) = true from h)
  | t + 7, h, _ =>
    exfalso
    have h : (Nat.ble (t + 7) 3 || Nat.beq (t + 7) 5) = true := h
    rw [Bool.or_eq_true, ble_iff, beq_iff] at h
    omega
def e_dup (go : GE) (n : Nat) (S : SE) : Bool := match S.2.1 with
  | x :: t => isW x && go (n + 1) (S.1, x :: x :: t, S.2.2)
  | _ => false
theorem q_dup (Q : SQ Y PS E Γ0 M0 d k Post go n (pc, .dup, 1, a1, a2, a3) r) (h : e_dup go n S = true) : TRU Y PS E Γ0 M0 d k Post pc S := by
  obtain ⟨ls, st, S3⟩ := S
  intro ρ α Γ M ls2 st2 r
  match st, h, r with
  | [], h, _ => cases h
  | x :: t, h, r =>
    obtain ⟨h1, h2⟩ := bb2 (show (isW x && go (n + 1) (ls, x :: x :: t, S3)) = true from h)
    obtain ⟨mx, t2, rfl, h7, h8⟩ := ARs.cons r.2.2.2.1
    obtain ⟨s0, u0, K, R, I⟩ := M
    exact s_dup Q.row.1 (h7.w1 h1) (Q.next h2 ρ α Γ _ ls2 _ ⟨r.1, r.2.1, r.2.2.1, ⟨h7, h7, h8⟩, r.2.2.2.2⟩)
def e_dup2 (go : GE) (n : Nat) (S : SE) : Bool := match S.2.1 with
  | x :: y :: t => (isW x && isW y) && go (n + 1) (S.1, x :: y :: x :: y :: t, S.2.2)
  | _ => false
theorem q_dup2 (Q : SQ Y PS E Γ0 M0 d k Post go n (pc, .dup2, 1, a1, a2, a3) r) (h : e_dup2 go n S = true) : TRU Y PS E Γ0 M0 d k Post pc S := by
  obtain ⟨ls, st, S3⟩ := S
  intro ρ α Γ M ls2 st2 r
  match st, h, r with
  | [], h, _ => cases h
  | [_], h, _ => cases h
  | x :: y :: t, h, r =>
    obtain ⟨h1, h2⟩ := bb2 (show ((isW x && isW y) && go (n + 1) (ls, x :: y :: x :: y :: t, S3)) = true from h)
    obtain ⟨h1, h4⟩ := bb2 h1
    obtain ⟨mx, t1, rfl, h5, h6⟩ := ARs.cons r.2.2.2.1
    obtain ⟨my, t2, rfl, h7, h8⟩ := ARs.cons h6
    obtain ⟨s0, u0, K, R, I⟩ := M
    exact s_dup2 Q.row.1 (h5.w1 h1) (h7.w1 h4) (Q.next h2 ρ α Γ _ ls2 _ ⟨r.1, r.2.1, r.2.2.1, ⟨h5, h7, h5, h7, h8⟩, r.2.2.2.2⟩)
def e_pop (go : GE) (n : Nat) (S : SE) : Bool := match S.2.1 with
  | x :: t => isW x && go (n + 1) (S.1, t, S.2.2)
  | _ => false
theorem q_pop (Q : SQ Y PS E Γ0 M0 d k Post go n (pc, .pop, 1, a1, a2, a3) r) (h : e_pop go n S = true) : TRU Y PS E Γ0 M0 d k Post pc S := by
  obtain ⟨ls, st, S3⟩ := S
  intro ρ α Γ M ls2 st2 r
  match st, h, r with
  | [], h, _ => cases h
  | x :: t, h, r =>
    obtain ⟨h1, h2⟩ := bb2 (show (isW x && go (n + 1) (ls, t, S3)) = true from h)
    obtain ⟨mx, t2, rfl, h7, h8⟩ := ARs.cons r.2.2.2.1
    obtain ⟨s0, u0, K, R, I⟩ := M
    exact s_pop Q.row.1 (h7.w1 h1) (Q.next h2 ρ α Γ _ ls2 _ ⟨r.1, r.2.1, r.2.2.1, h8, r.2.2.2.2⟩)
def wdE (v : AV) : Nat := cond (isL v) 2 1
def wdsE (l : List AV) : Nat := match l with
  | [] => 0
  | v :: r => wdE v + wdsE r
/-- nothing of unknown width -/
def stB (l : List AV) : Bool := l.all fun v => isW v || isL v
theorem wds_ok {ρ : Nat → Int} {α Γ : Nat → Nat} : ∀ {a : List AV} {b : List MV}, stB a = true → ARs ρ α Γ a b → wds b = wdsE a
  | [], [], _, _ => rfl
  | [], _ :: _, _, h => h.elim
  | _ :: _, [], _, h => h.elim
  | v :: a, m :: b, hs, h => by
    unfold stB at hs
    rw [List.all_cons, Bool.and_eq_true] at hs
    have ih := wds_ok (a := a) (b := b) hs.2 h.2
    show (List.map wd (m :: b)).sum = wdE v + wdsE a
    rw [List.map_cons, List.sum_cons, ← ih]
    congr 1
    unfold wdE
    cases hl : isL v with
    | true =>
      obtain ⟨x, rfl, -⟩ := h.1.lng hl
      rfl
    | false =>
      rw [hl, Bool.or_false] at hs
      exact h.1.w1 hs.1
def e_mm (id : Nat) (f : BC → AV → AV → Option (AV ⊕ (Int × Int))) (go : GE) (n : Nat) (S : SE) : Bool := (stB (S.2.1.drop 2) && Nat.ble (wdsE (S.2.1.drop 2)) 8) && e_bin id f go n S
end
