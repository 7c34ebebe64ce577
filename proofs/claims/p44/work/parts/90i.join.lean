/-! p44: cuts along rows and columns, one edge after another -/
theorem hE_u {C e : Nat} (h : e % 2 = 0) : e = hE C (e / 2 / C) (e / 2 % C) := by
  unfold hE
  have := Nat.div_add_mod (e / 2) C
  rw [Nat.mul_comm] at this
  rw [this]
  omega
theorem vE_u {C e : Nat} (h : e % 2 = 1) : e = vE C (e / 2 / C) (e / 2 % C) := by
  unfold vE
  have := Nat.div_add_mod (e / 2) C
  rw [Nat.mul_comm] at this
  rw [this]
  omega
theorem rI_e {C r u e : Nat} (h : rI C r u u e ≠ 0) : e = vE C r u := by
  unfold rI at h
  by_cases hc : e % 2 = 1 ∧ e / 2 / C = r ∧ u ≤ e / 2 % C ∧ e / 2 % C ≤ u
  · obtain ⟨h1, h2, h3, h4⟩ := hc
    have := vE_u (C := C) h1
    rw [this, h2, show e / 2 % C = u by omega]
  · rw [if_neg hc] at h
    exact absurd rfl h
theorem cI_e {C c u e : Nat} (h : cI C c u u e ≠ 0) : e = hE C u c := by
  unfold cI at h
  by_cases hc : e % 2 = 0 ∧ e / 2 % C = c ∧ u ≤ e / 2 / C ∧ e / 2 / C ≤ u
  · obtain ⟨h1, h2, h3, h4⟩ := hc
    have := hE_u (C := C) h1
    rw [this, h2, show e / 2 / C = u by omega]
  · rw [if_neg hc] at h
    exact absurd rfl h
theorem SUP_w {ov w : Nat → Int} {b b2 : Int} (h : SUP ov w b) (hb : b ≤ b2) : SUP ov w b2 := fun e he => ⟨⟨(h e he).1.1, Int.le_trans (h e he).1.2 hb⟩, (h e he).2⟩
theorem WS2_0 {g : Nat × Nat × Nat} {ov : Nat → Int} {n r c a q d b k r1 c1 : Int} (h : WS g ov n r c a q d b k) : WS2 g ov n r c a q d b k r1 c1 r1 c1 := by
  obtain ⟨w, h1, h2⟩ := h
  refine fun s => ⟨w, SUP_w h1 (by omega), fun x y hx hy => ?_⟩
  show kwF (zC g).toNat w x y = XX g n r c a q d b x y + s * (ei r1 c1 x y - ei r1 c1 x y)
  rw [Int.sub_self, Int.mul_zero, Int.add_zero]
  exact h2 x y hx hy
/-- one edge more: what it does for a place -/
theorem WS2_s {g : Nat × Nat × Nat} {ov ov2 : Nat → Int} {n r c a q d b k r1 c1 r2 c2 r3 c3 : Int} {e0 : Nat} (v : Nat → Int) (h : WS2 g ov n r c a q d b k r1 c1 r2 c2) (h1 : ∀ e, e < 288 → e ≠ e0 → ov2 e = ov e) (h2 : ov2 e0 = ov e0 + 1) (hv : ∀ e, v e ≠ 0 → e = e0) (he : e0 < 288) (h3 : ov e0 ≤ 2 * n + k) (hk : ∀ x y : Nat, ((y + 1 : Nat) : Int) < zC g → ∀ s : Int, kwF (zC g).toNat (fun e => s * v e) x y = s * (ei r2 c2 x y - ei r3 c3 x y)) : WS2 g ov2 n r c a q d b k r1 c1 r3 c3 := by
  intro s
  obtain ⟨w, q1, q2⟩ := h s
  refine ⟨fun e => w e + s * v e, fun e h288 => ?_, fun x y hx hy => ?_⟩
  · obtain ⟨⟨p1, p2⟩, p3⟩ := q1 e h288
    by_cases hee : e = e0
    · subst hee
      rw [h2]
      exact ⟨⟨by omega, by omega⟩, fun z => by omega⟩
    · rw [h1 e h288 hee]
      refine ⟨⟨p1, p2⟩, fun z => ?_⟩
      have hv0 : v e = 0 := Decidable.byContradiction fun hne => hee (hv e hne)
      show w e + s * v e = 0
      rw [p3 z, hv0, Int.mul_zero]
      rfl
  · rw [kw_add, q2 x y hx hy, hk x y hy s]
    show XX g n r c a q d b x y + s * (ei r1 c1 x y - ei r2 c2 x y) + s * (ei r2 c2 x y - ei r3 c3 x y) = XX g n r c a q d b x y + s * (ei r1 c1 x y - ei r3 c3 x y)
    rw [Int.mul_sub, Int.mul_sub, Int.mul_sub]
    omega
theorem WS2_row {g : Nat × Nat × Nat} {ov ov2 : Nat → Int} {n r c a q d b k r1 c1 : Int} {e u : Nat} (hu : (u : Int) < zC g) (h : WS2 g ov n r c a q d b k r1 c1 (e : Int) ((u : Int) - 1)) (h1 : ∀ x, x < 288 → x ≠ vE (zC g).toNat e u → ov2 x = ov x) (h2 : ov2 (vE (zC g).toNat e u) = ov (vE (zC g).toNat e u) + 1) (he : vE (zC g).toNat e u < 288) (h3 : ov (vE (zC g).toNat e u) ≤ 2 * n + k) : WS2 g ov2 n r c a q d b k r1 c1 (e : Int) (u : Int) :=
  WS2_s (fun x => rI (zC g).toNat e u u x) h h1 h2 (fun x hx => rI_e hx) he h3 fun x y hy s => by
    rw [kw_row s (show y + 1 < (zC g).toNat by omega) (show u ≤ u + 1 by omega)]
    unfold ei
    congr 2
    · by_cases hc : x = e ∧ y + 1 = u
      · rw [if_pos hc, if_pos ⟨by omega, by omega⟩]
      · rw [if_neg hc, if_neg (fun z => hc ⟨by omega, by omega⟩)]
    · by_cases hc : x = e ∧ y = u
      · rw [if_pos hc, if_pos ⟨by omega, by omega⟩]
      · rw [if_neg hc, if_neg (fun z => hc ⟨by omega, by omega⟩)]
theorem ei_sub (s : Int) (r c r2 c2 : Int) (x y : Nat) : s * (ei r c x y - ei r2 c2 x y) = -s * (ei r2 c2 x y - ei r c x y) := by
  rw [Int.neg_mul, Int.mul_sub, Int.mul_sub]
  omega
theorem WS2_sw {g : Nat × Nat × Nat} {ov : Nat → Int} {n r c a q d b k r1 c1 r2 c2 : Int} (h : WS2 g ov n r c a q d b k r1 c1 r2 c2) : WS2 g ov n r c a q d b k r2 c2 r1 c1 := by
  intro s
  obtain ⟨w, q1, q2⟩ := h (-s)
  refine ⟨w, q1, fun x y hx hy => ?_⟩
  rw [q2 x y hx hy]
  show XX g n r c a q d b x y + -s * (ei r1 c1 x y - ei r2 c2 x y) = XX g n r c a q d b x y + s * (ei r2 c2 x y - ei r1 c1 x y)
  rw [← ei_sub s]
theorem WS2_col {g : Nat × Nat × Nat} {ov ov2 : Nat → Int} {n r c a q d b k r1 c1 : Int} {e u : Nat} (hu : (e : Int) < zC g) (h : WS2 g ov n r c a q d b k ((u : Int) - 1) (e : Int) r1 c1) (h1 : ∀ x, x < 288 → x ≠ hE (zC g).toNat u e → ov2 x = ov x) (h2 : ov2 (hE (zC g).toNat u e) = ov (hE (zC g).toNat u e) + 1) (he : hE (zC g).toNat u e < 288) (h3 : ov (hE (zC g).toNat u e) ≤ 2 * n + k) : WS2 g ov2 n r c a q d b k (u : Int) (e : Int) r1 c1 :=
  WS2_sw (WS2_s (fun x => -cI (zC g).toNat e u u x) (WS2_sw h) h1 h2 (fun x hx => cI_e (fun z => hx (by rw [z]; rfl))) he h3 fun x y hy s => by
    have key := kw_col (C := (zC g).toNat) (c := e) (f := u) (l := u) (-s) (r2 := x) (show y + 1 < (zC g).toNat by omega) (show u ≤ u + 1 by omega)
    have e1 : (fun x => s * -cI (zC g).toNat e u u x) = (fun x => -s * cI (zC g).toNat e u u x) := by
      funext x
      rw [Int.neg_mul, Int.mul_neg]
    rw [e1, key, Int.neg_mul, Int.mul_sub, Int.mul_sub]
    unfold ei
    rw [show (if y = e ∧ x = u then (1 : Int) else 0) = (if (u : Int) = (x : Int) ∧ (e : Int) = (y : Int) then 1 else 0) from by
      by_cases hc : y = e ∧ x = u
      · rw [if_pos hc, if_pos ⟨by omega, by omega⟩]
      · rw [if_neg hc, if_neg (fun z => hc ⟨by omega, by omega⟩)], show (if y = e ∧ x + 1 = u then (1 : Int) else 0) = (if (u : Int) - 1 = (x : Int) ∧ (e : Int) = (y : Int) then 1 else 0) from by
      by_cases hc : y = e ∧ x + 1 = u
      · rw [if_pos hc, if_pos ⟨by omega, by omega⟩]
      · rw [if_neg hc, if_neg (fun z => hc ⟨by omega, by omega⟩)]]
    omega)
theorem ev_lt1 {e C r c : Nat} (h1 : r ≤ 11) (h2 : c < C) (h3 : C ≤ 12) (h : e ≤ 2 * (r * C + c) + 1) : e < 288 := by
  have : r * C ≤ 11 * C := Nat.mul_le_mul_right C h1
  omega
theorem ix_lt {r c C : Int} (h1 : 0 ≤ r ∧ r ≤ 11) (h2 : 0 ≤ c ∧ c < C) (h3 : C ≤ 12) {i : Int} (h : 2 * (r * C + c) ≤ i ∧ i ≤ 2 * (r * C + c) + 1) : 0 ≤ i ∧ i < 288 := by
  have a := Int.mul_nonneg h1.1 (show 0 ≤ C by omega)
  have b : r * C ≤ 11 * C := Int.mul_le_mul_of_nonneg_right h1.2 (by omega)
  omega
theorem vE_ne {C r y u : Nat} (h : y ≠ u) : vE C r y ≠ vE C r u := by
  unfold vE
  omega
theorem hE_ne {C c y u : Nat} (hC : 0 < C) (h : y ≠ u) : hE C y c ≠ hE C u c := by
  unfold hE
  intro q
  have : y * C = u * C := by omega
  exact h (Nat.eq_of_mul_eq_mul_right hC this)
/-- of a pair, or of one that goes to the border: cut off -/
def WSP (g : Nat × Nat × Nat) (ov : Nat → Int) (n : Int) (v : Nat → Nat → Int) : Prop := ∃ w, SUP ov w (2 * n + 2) ∧ KWZ g w fun x y => bas g n x y + zCg g n.toNat * v x y
theorem WS2_P {g : Nat × Nat × Nat} {ov : Nat → Int} {n r c a q d b k r1 c1 r2 c2 : Int} (h : WS2 g ov n r c a q d b k r1 c1 r2 c2) (hk : k ≤ 1) (s : Int) {v : Nat → Nat → Int} (hv : ∀ x y : Nat, ((x + 1 : Nat) : Int) < zR g → ((y + 1 : Nat) : Int) < zC g → zCg g n.toNat * (a * ei r c x y + b * ei q d x y) + s * (ei r1 c1 x y - ei r2 c2 x y) = zCg g n.toNat * v x y) : WSP g ov n v := by
  obtain ⟨w, q1, q2⟩ := h s
  refine ⟨w, SUP_w q1 (by omega), fun x y hx hy => ?_⟩
  rw [q2 x y hx hy]
  show XX g n r c a q d b x y + s * (ei r1 c1 x y - ei r2 c2 x y) = bas g n x y + zCg g n.toNat * v x y
  unfold XX
  rw [← hv x y hx hy, Int.add_assoc]
theorem WS2_W {g : Nat × Nat × Nat} {ov : Nat → Int} {n r c a q d b k r1 c1 r2 c2 r' c' a' q' d' b' k' : Int} (h : WS2 g ov n r c a q d b k r1 c1 r2 c2) (hk : k + 1 ≤ k') (s : Int) (hv : ∀ x y : Nat, zCg g n.toNat * (a * ei r c x y + b * ei q d x y) + s * (ei r1 c1 x y - ei r2 c2 x y) = zCg g n.toNat * (a' * ei r' c' x y + b' * ei q' d' x y)) : WS g ov n r' c' a' q' d' b' k' := by
  obtain ⟨w, q1, q2⟩ := h s
  refine ⟨w, SUP_w q1 (by omega), fun x y hx hy => ?_⟩
  rw [q2 x y hx hy]
  show XX g n r c a q d b x y + s * (ei r1 c1 x y - ei r2 c2 x y) = XX g n r' c' a' q' d' b' x y
  unfold XX
  rw [← hv x y, Int.add_assoc]
theorem row_ltI {p R C r : Int} (h0 : 0 ≤ p) (h : p < R * C) (hC : 0 < C) (e : r = p / C) : 0 ≤ r ∧ r < R := by
  subst e
  exact ⟨Int.ediv_nonneg h0 (by omega), Int.ediv_lt_of_lt_mul hC h⟩
theorem col_ltI {p C c : Int} (hC : 0 < C) (e : c = p % C) : 0 ≤ c ∧ c < C := by
  subst e
  exact ⟨Int.emod_nonneg p (by omega), Int.emod_lt_of_pos p hC⟩
theorem row_leI {p q C : Int} (h : p ≤ q) (hC : 0 < C) : p / C ≤ q / C := Int.ediv_le_ediv hC h
/-! telling: one more of the torn rings is joined -/
def SDM (g : Nat × Nat × Nat) : Prop := zK g ≤ 81 ∧ MAT (zK g) (zCg g) (zMt g)
def SD1 (g : Nat × Nat × Nat) (n p : Int) : Prop := (0 ≤ n ∧ n < zK g) ∧ zRg g n.toNat = p ∧ zMt g n.toNat = -1
def SD2 (g : Nat × Nat × Nat) (n p q : Int) : Prop := ∃ m : Nat, (0 ≤ n ∧ n < (m : Int) ∧ (m : Int) < zK g) ∧ p < q ∧ zRg g n.toNat = p ∧ zRg g m = q ∧ zMt g n.toNat = (m : Int) ∧ zMt g m = n ∧ zCg g m = -zCg g n.toNat
theorem sm_1 (f h : Nat → Int) (m : Nat) : ∀ k, (∀ i, i < k → i ≠ m → h i = f i) → sm h k = sm f k + (if m < k then h m - f m else 0)
  | 0, _ => by rw [if_neg (Nat.not_lt_zero m)]; rfl
  | k + 1, H => by
    have ih := sm_1 f h m k fun i hi => H i (by omega)
    show sm h k + h k = sm f k + f k + _
    rw [ih]
    by_cases hm : m < k
    · rw [if_pos hm, if_pos (show m < k + 1 by omega), H k (by omega) (by omega)]
      omega
    · rw [if_neg hm]
      by_cases he : m = k
      · subst he
        rw [if_pos (show m < m + 1 by omega)]
        omega
      · rw [if_neg (show ¬ m < k + 1 by omega), H k (by omega) (by omega)]
        omega
theorem ei_p {p C : Int} {x y : Nat} (hp : 0 ≤ p) (hy : (y : Int) < C) : ei (p / C) (p % C) x y = if p = ((x * C.toNat + y : Nat) : Int) then 1 else 0 := by
  have e1 := Int.mul_ediv_add_emod p C
  have e2 : ((x * C.toNat + y : Nat) : Int) = (x : Int) * C + y := by
    rw [Int.natCast_add, Int.natCast_mul, show ((C.toNat : Nat) : Int) = C by omega]
  rw [e2]
  unfold ei
  by_cases hc : p = (x : Int) * C + y
  · rw [if_pos hc, if_pos]
    rw [hc]
    constructor
    · rw [Int.add_comm, Int.add_mul_ediv_right _ _ (by omega), Int.ediv_eq_zero_of_lt (by omega) hy, Int.zero_add]
    · rw [Int.add_comm, Int.add_mul_emod_self_right, Int.emod_eq_of_lt (by omega) hy]
  · rw [if_neg hc, if_neg]
    intro q
    apply hc
    rw [q.1, q.2, Int.mul_comm] at e1
    exact e1.symm
theorem dn_ne {g : Nat × Nat × Nat} {n : Int} {i : Nat} (hi : (i : Int) ≠ n) (hm : zMt g i ≠ n) : dnB g (n + 1) i = dnB g n i := by
  unfold dnB
  apply decide_eq_decide.mpr
  constructor
  · intro h
    rcases h with h | h
    · exact Or.inl (by omega)
    · exact Or.inr (by omega)
  · intro h
    rcases h with h | h
    · exact Or.inl (by omega)
    · exact Or.inr (by omega)
theorem mt_ne {g : Nat × Nat × Nat} (hS : SDM g) {n : Int} {i : Nat} (hn : 0 ≤ n) (hi : (i : Int) < zK g) (h : zMt g n.toNat ≠ (i : Int)) : zMt g i ≠ n := by
  intro e
  rcases hS.2 i hi with q | ⟨m, m1, m2, m3, m4, -⟩
  · omega
  · have : m = n.toNat := by omega
    subst this
    exact h m4
theorem bas_1 {g : Nat × Nat × Nat} {n p : Int} (hS : SDM g) (h : SD1 g n p) (hp : 0 ≤ p) {x y : Nat} (hy : (y : Int) < zC g) : bas g (n + 1) x y = bas g n x y + zCg g n.toNat * ei (p / zC g) (p % zC g) x y := by
  obtain ⟨⟨a1, a2⟩, a3, a4⟩ := h
  unfold bas
  rw [sm_1 (fun i => if zRg g i = ((x * (zC g).toNat + y : Nat) : Int) ∧ dnB g n i = true then zCg g i else 0) _ n.toNat (zK g).toNat (fun i hi hne => by
    show (if _ then _ else _) = (if _ then _ else _)
    rw [dn_ne (show (i : Int) ≠ n by omega) (mt_ne hS a1 (by omega) (by omega))]), if_pos (show n.toNat < (zK g).toNat by omega), ei_p hp hy]
  congr 1
  have d1 : dnB g (n + 1) n.toNat = true := decide_eq_true (Or.inl (by omega))
  have d0 : dnB g n n.toNat = false := decide_eq_false (fun z => by rcases z with z | z <;> omega)
  show (if zRg g n.toNat = _ ∧ dnB g (n + 1) n.toNat = true then zCg g n.toNat else 0) - (if zRg g n.toNat = _ ∧ dnB g n n.toNat = true then zCg g n.toNat else 0) = _
  rw [d1, d0, a3, if_neg (fun z : p = ((x * (zC g).toNat + y : Nat) : Int) ∧ false = true => by cases z.2)]
  by_cases hc : p = ((x * (zC g).toNat + y : Nat) : Int)
  · rw [if_pos ⟨hc, rfl⟩, if_pos hc]
    omega
  · rw [if_neg (fun z => hc z.1), if_neg hc]
    omega
theorem bas_2 {g : Nat × Nat × Nat} {n p q : Int} (hS : SDM g) (h : SD2 g n p q) (hp : 0 ≤ p) {x y : Nat} (hy : (y : Int) < zC g) : bas g (n + 1) x y = bas g n x y + zCg g n.toNat * (ei (p / zC g) (p % zC g) x y - ei (q / zC g) (q % zC g) x y) := by
  obtain ⟨m, ⟨a1, a2, a3⟩, apq, a4, a5, a6, a7, a8⟩ := h
  unfold bas
  generalize hrc : ((x * (zC g).toNat + y : Nat) : Int) = rc
  have d1 : dnB g (n + 1) n.toNat = true := decide_eq_true (Or.inl (by omega))
  have d0 : dnB g n n.toNat = false := decide_eq_false (fun z => by rcases z with z | z <;> omega)
  have d3 : dnB g (n + 1) m = true := decide_eq_true (Or.inr (by omega))
  have d2 : dnB g n m = false := decide_eq_false (fun z => by rcases z with z | z <;> omega)
  let f : Nat → Int := fun i => if zRg g i = rc ∧ dnB g n i = true then zCg g i else 0
  let h : Nat → Int := fun i => if zRg g i = rc ∧ dnB g (n + 1) i = true then zCg g i else 0
  let h1 : Nat → Int := fun i => if i = n.toNat then h i else f i
  have s1 : sm h (zK g).toNat = sm h1 (zK g).toNat + _ := sm_1 h1 h m _ fun i hi hne => by
    show h i = (if i = n.toNat then h i else f i)
    by_cases hc : i = n.toNat
    · rw [if_pos hc]
    · rw [if_neg hc]
      show (if _ then _ else _) = (if _ then _ else _)
      rw [dn_ne (show (i : Int) ≠ n by omega) (mt_ne hS a1 (by omega) (by omega))]
  have s2 : sm h1 (zK g).toNat = sm f (zK g).toNat + _ := sm_1 f h1 n.toNat _ fun i hi hne => if_neg hne
  show sm h _ = sm f _ + _
  rw [s1, s2, if_pos (show m < (zK g).toNat by omega), if_pos (show n.toNat < (zK g).toNat by omega), ei_p hp hy, ei_p (show 0 ≤ q by omega) hy, hrc, show h1 m = f m from if_neg (by omega), show h1 n.toNat = h n.toNat from if_pos rfl, Int.add_assoc]
  congr 1
  have f1 : f n.toNat = 0 := if_neg fun z => by rw [d0] at z; cases z.2
  have f2 : f m = 0 := if_neg fun z => by rw [d2] at z; cases z.2
  have h2 : h n.toNat = if p = rc then zCg g n.toNat else 0 := by
    show (if zRg g n.toNat = rc ∧ dnB g (n + 1) n.toNat = true then zCg g n.toNat else 0) = _
    rw [d1, a4]
    by_cases hc : p = rc
    · rw [if_pos ⟨hc, rfl⟩, if_pos hc]
    · rw [if_neg (fun z => hc z.1), if_neg hc]
  have h3 : h m = if q = rc then -zCg g n.toNat else 0 := by
    show (if zRg g m = rc ∧ dnB g (n + 1) m = true then zCg g m else 0) = _
    rw [d3, a5, a8]
    by_cases hc : q = rc
    · rw [if_pos ⟨hc, rfl⟩, if_pos hc]
    · rw [if_neg (fun z => hc z.1), if_neg hc]
  rw [f1, f2, h2, h3, Int.mul_sub]
  by_cases c1 : p = rc <;> by_cases c2 : q = rc
  · omega
  · rw [if_pos c1, if_neg c2, if_pos c1, if_neg c2]; omega
  · rw [if_neg c1, if_pos c2, if_neg c1, if_pos c2]; omega
  · rw [if_neg c1, if_neg c2, if_neg c1, if_neg c2]; omega
theorem WSP_n {g : Nat × Nat × Nat} {ov : Nat → Int} {n : Int} {v : Nat → Nat → Int} (h : WSP g ov n v) (hb : ∀ x y : Nat, ((y + 1 : Nat) : Int) < zC g → bas g (n + 1) x y = bas g n x y + zCg g n.toNat * v x y) : WS g ov (n + 1) 0 0 0 0 0 0 0 := by
  obtain ⟨w, q1, q2⟩ := h
  refine ⟨w, SUP_w q1 (by omega), fun x y hx hy => ?_⟩
  rw [q2 x y hx hy]
  show bas g n x y + zCg g n.toNat * v x y = XX g (n + 1) 0 0 0 0 0 0 x y
  unfold XX
  rw [hb x y hy, Int.zero_mul, Int.add_zero, Int.mul_zero, Int.add_zero]
def SDI (g : Nat × Nat × Nat) : Prop := (∀ i j : Nat, i < j → (j : Int) < zK g → zRg g i < zRg g j) ∧ ∀ i : Nat, (i : Int) < zK g → zCg g i = 1 ∨ zCg g i = -1
def WSA (g : Nat × Nat × Nat) (ov : Nat → Int) : Prop := ∃ w, (∀ e : Nat, e < 288 → 0 ≤ ov e ∧ (ov e = 0 → w e = 0)) ∧ KWZ g w fun x y => sm (fun i => if zRg g i = ((x * (zC g).toNat + y : Nat) : Int) then zCg g i else 0) (zK g).toNat
theorem sm_z (f : Nat → Int) : ∀ k, (∀ i, i < k → f i = 0) → sm f k = 0
  | 0, _ => rfl
  | k + 1, h => by
    show sm f k + f k = 0
    rw [sm_z f k fun i hi => h i (by omega), h k (by omega)]
    rfl
theorem sm_e {f h : Nat → Int} : ∀ k, (∀ i, i < k → f i = h i) → sm f k = sm h k
  | 0, _ => rfl
  | k + 1, H => by
    show sm f k + f k = sm h k + h k
    rw [sm_e k fun i hi => H i (by omega), H k (by omega)]
theorem WS_0 {g : Nat × Nat × Nat} {ov : Nat → Int} (h : ∀ j : Nat, j < 288 → ov j = 0) : WS g ov 0 0 0 0 0 0 0 0 := by
  refine ⟨fun _ => 0, fun e he => ⟨by rw [h e he]; exact ⟨by decide, by decide⟩, fun _ => rfl⟩, fun x y hx hy => ?_⟩
  show (0 : Int) = XX g 0 0 0 0 0 0 0 x y
  unfold XX bas
  rw [sm_z _ _ fun i hi => if_neg fun z => by
    have := of_decide_eq_true z.2
    rcases this with q | q
    · omega
    · omega]
  rw [Int.zero_mul, Int.add_zero, Int.mul_zero]
  rfl
theorem SD2_of {g : Nat × Nat × Nat} {n p q x : Int} (hS : SDM g) (hI : SDI g) (hn : 0 ≤ n ∧ n < zK g) (h1 : zRg g n.toNat = p) (h2 : zMt g n.toNat = x) (hx : n < x) (h3 : ∀ m : Nat, (m : Int) = x → (m : Int) < zK g → zRg g m = q) : SD2 g n p q := by
  rcases hS.2 n.toNat (by omega) with z | ⟨m, m1, m2, m3, m4, m5⟩
  · omega
  · have hm : (m : Int) = x := by omega
    have hr := h3 m hm m1
    refine ⟨m, ⟨hn.1, by omega, m1⟩, ?_, h1, hr, by omega, by omega, ?_⟩
    · rw [← h1, ← hr]
      exact hI.1 n.toNat m (by omega) m1
    · have a := hI.2 m m1
      have b := hI.2 n.toNat (by omega)
      omega
theorem WS_skip {g : Nat × Nat × Nat} {ov : Nat → Int} {n x : Int} (hS : SDM g) (hn : 0 ≤ n ∧ n < zK g) (h2 : zMt g n.toNat = x ∧ x ≠ -1) (hx : x ≤ n) (h : WS g ov n 0 0 0 0 0 0 0) : WS g ov (n + 1) 0 0 0 0 0 0 0 := by
  obtain ⟨w, q1, q2⟩ := h
  refine ⟨w, SUP_w q1 (by omega), fun r c hr hc => ?_⟩
  rw [q2 r c hr hc]
  unfold XX
  rw [Int.zero_mul, Int.add_zero, Int.mul_zero, Int.mul_zero]
  congr 1
  unfold bas
  rcases hS.2 n.toNat (by omega) with z | ⟨m, m1, m2, m3, m4, m5⟩
  · omega
  refine sm_e _ fun i hi => ?_
  have key : dnB g n i = dnB g (n + 1) i := by
    by_cases h1 : (i : Int) = n
    · have e : i = n.toNat := by omega
      subst e
      rw [show dnB g n n.toNat = true from decide_eq_true (Or.inr (by omega)), show dnB g (n + 1) n.toNat = true from decide_eq_true (Or.inl (by omega))]
    · by_cases h3 : zMt g i = n
      · have e : zMt g n.toNat = (i : Int) := by
          rcases hS.2 i (by omega) with z | ⟨j, j1, j2, j3, j4, -⟩
          · omega
          · have : j = n.toNat := by omega
            subst this
            exact j4
        rw [show dnB g n i = true from decide_eq_true (Or.inl (by omega)), show dnB g (n + 1) i = true from decide_eq_true (Or.inl (by omega))]
      · exact (dn_ne h1 h3).symm
  rw [key]
theorem WSA_of {g : Nat × Nat × Nat} {ov : Nat → Int} {n : Int} (h : WS g ov n 0 0 0 0 0 0 0) (hn : zK g ≤ n) : WSA g ov := by
  obtain ⟨w, q1, q2⟩ := h
  refine ⟨w, fun e he => ⟨(q1 e he).1.1, (q1 e he).2⟩, fun r c hr hc => ?_⟩
  rw [q2 r c hr hc]
  unfold XX bas
  rw [Int.zero_mul, Int.add_zero, Int.mul_zero, Int.add_zero]
  refine sm_e _ fun i hi => ?_
  rw [show dnB g n i = true from decide_eq_true (Or.inl (by omega))]
  by_cases hc : zRg g i = ((r * (zC g).toNat + c : Nat) : Int)
  · rw [if_pos ⟨hc, rfl⟩, if_pos hc]
  · rw [if_neg (fun z => hc z.1), if_neg hc]
