/-! loops in one step: they tell the truth -/
theorem le11_ok {ρ : Nat → Int} {v : VV} {m : MV} (h : le11 v = true) (r : VR ρ v m) : ∃ a : Nat, m = vi (a : Int) ∧ a ≤ 11 := by
  unfold le11 at h
  split at h
  · rename_i a
    exact ⟨a, r, blm h⟩
  · cases h
theorem amOK_ok {ρ : Nat → Int} {kc A j : Nat} {F : List (Option VV)} {x : Int} {q : Option Nat} (h : amOK (fget j F) = true) (r : CE ρ kc F A j x q) (hk : isN kc = false) : ∃ a : Nat, x = (a : Int) ∧ a ≤ 11 := by
  cases hf : fget j F with
  | none => exact ⟨0, ((r.2 hk).1 hf).1, by decide⟩
  | some v =>
    rw [hf] at h
    rcases (r.2 hk).2 v hf with r | r
    · obtain ⟨a, h1, h2⟩ := le11_ok h r
      cases h1
      exact ⟨a, rfl, h2⟩
    · obtain ⟨a, h1, h2⟩ := le11_ok h r
      cases h1
theorem CE.ref {ρ : Nat → Int} {kc A j b : Nat} {F : List (Option VV)} {x : Int} {q : Option Nat} (r : CE ρ kc F A j x q) (hk : isN kc = false) (hf : fget j F = some (.inl (.inr (.inr (some b))))) : q = some b :=
  Sum.inr.inj (Sum.inr.inj (show vq q = vr b from (r.fld hk hf).2 rfl))
theorem pclrs_ok : ∀ (rg : List (Nat × Nat)) (A j : Nat), ((∃ p ∈ rg, p.1 ≤ j ∧ j < p.1 + p.2) → pget (pclrs rg A) j = 0) ∧ ((¬ ∃ p ∈ rg, p.1 ≤ j ∧ j < p.1 + p.2) → pget (pclrs rg A) j = pget A j)
  | [], A, j => ⟨fun ⟨p, hp, _⟩ => absurd hp List.not_mem_nil, fun _ => rfl⟩
  | (lo, n) :: r, A, j => by
    have ih := pclrs_ok r (pclr A lo n) j
    refine ⟨fun ⟨p, hp, hq⟩ => ?_, fun hn => ?_⟩
    · show pget (pclrs r (pclr A lo n)) j = 0
      by_cases hr : ∃ p ∈ r, p.1 ≤ j ∧ j < p.1 + p.2
      · exact ih.1 hr
      · rw [ih.2 hr, pget_pclr]
        rcases List.mem_cons.mp hp with rfl | hp
        · rw [if_pos hq]
        · exact absurd ⟨p, hp, hq⟩ hr
    · show pget (pclrs r (pclr A lo n)) j = pget A j
      rw [ih.2 (fun ⟨p, hp, hq⟩ => hn ⟨p, List.mem_cons_of_mem _ hp, hq⟩), pget_pclr, if_neg (fun q => hn ⟨(lo, n), List.mem_cons_self, q⟩)]
section
variable {go : GO} {n pc len a1 a2 a3 : Nat} {r : List OE} {D : Nat} {ls st : List VV} {fs : List FR} {T : HT} {s u : Nat} {C : CT} {i : Instr}
theorem mx_7 : ∃ e r, (ops 187).drop 49 = e :: r ∧ e.1 = 81 := ⟨_, _, rfl, rfl⟩
theorem mj_7 : decode (mcode 187) 1 = .ok (.istore_n 1, 1) := by decide +kernel
theorem om_7 (S : STP go 187 n (1, i, len, a1, a2, a3) r) (h : m_clr 1 49 [(874, 144), (442, 144), (586, 144), (730, 144), (2026, 144), (2170, 144)] go (1, i, len, a1, a2, a3) D 187 (ops 187) r ls st fs T s u C = true) : SemAt D 187 1 ls st fs T s u C := by
  intro ρ ls2 st2 fs2 M hC h1 h2 h3 h4
  obtain ⟨s0, u0, K, R, I⟩ := M
  unfold m_clr at h
  split at h
  · rename_i m w0
    obtain ⟨b0, t0, rfl, g0, g1⟩ := h1.cons
    obtain ⟨b1, t1, rfl, g2, g3⟩ := g1.cons
    cases g3.nil
    obtain ⟨c0, t2, rfl, g4, g5⟩ := h2.cons
    cases g5.nil
    cases (show b0 = vr m from g0)
    cases (show c0 = vi 0 from g4)
    split at h
    · rename_i kc kn F A ho
      rw [q7_eq] at ho
      obtain ⟨w1, w2, w3⟩ := h4.2.2 m _ ho
      cases hc : (Nat.beq kc 12 && Nat.beq kn 0) with
      | false => rw [hc] at h; cases h
      | true =>
        rw [hc, cond_true] at h
        rw [Bool.and_eq_true, beq_iff, beq_iff] at hc
        obtain ⟨rfl, rfl⟩ := hc
        split at h
        · rename_i sa hsa
          split at h
          · rename_i sc sn G B hos
            rw [q7_eq] at hos
            obtain ⟨y1, y2, y3⟩ := h4.2.2 sa _ hos
            cases hd : (Nat.beq sc 20 && Nat.beq sn 2314) with
            | false => rw [hd] at h; cases h
            | true =>
              rw [hd, cond_true, fN_eq, bsetK_eq, dropN_eq] at h
              rw [Bool.and_eq_true, beq_iff, beq_iff] at hd
              obtain ⟨rfl, rfl⟩ := hd
              have hRs : R m 1 = some sa := (w3 1 (Or.inl (show 12 < 20 by decide))).ref rfl hsa
              refine s_istore_n (ls2 := [vr m, vi 0]) mj_7 (by show 1 < 2; decide) (by
                unfold st1 kl
                rfl) ?_
              refine mc_7 w2 hRs y2 (fun I2 hI2 => ?_)
              obtain ⟨e2, r2, j1, j2⟩ := mx_7
              obtain ⟨e3, r3, j3, j4⟩ := S.1 _ _ _ _ _ _ _ _ _ _ S.2.1 h
              rw [j1] at j3
              cases j3
              rw [j2] at j4
              refine j4 ρ [vr m, vi 144] [] fs2 _ hC ⟨rfl, rfl, trivial⟩ trivial h3 ?_
              refine h4.upd hos rfl rfl rfl (fun b j hb => ⟨?_, rfl⟩) (fun j hj2 => ⟨fun _ hG => ?_, fun q => (by cases q)⟩)
              · show I2 b j = I b j
                rw [hI2 b j, if_neg (fun q => hb q.1)]
              · have hce := (y3 j hj2).1 rfl hG
                have hcl := pclrs_ok [(874, 144), (442, 144), (586, 144), (730, 144), (2026, 144), (2170, 144)] B j
                show VR ρ (dec (pget (pclrs [(874, 144), (442, 144), (586, 144), (730, 144), (2026, 144), (2170, 144)] B) j)) (vi (I2 sa j))
                by_cases hzr : ((874 ≤ j ∧ j < 874 + 144) ∨ (442 ≤ j ∧ j < 442 + 144) ∨ (586 ≤ j ∧ j < 586 + 144) ∨ (730 ≤ j ∧ j < 730 + 144) ∨ (2026 ≤ j ∧ j < 2026 + 144) ∨ (2170 ≤ j ∧ j < 2170 + 144))
                · rw [hI2 sa j, if_pos ⟨rfl, hzr⟩, hcl.1 (by
                    rcases hzr with g | g | g | g | g | g
                    · exact ⟨(874, 144), by simp, g.1, g.2⟩
                    · exact ⟨(442, 144), by simp, g.1, g.2⟩
                    · exact ⟨(586, 144), by simp, g.1, g.2⟩
                    · exact ⟨(730, 144), by simp, g.1, g.2⟩
                    · exact ⟨(2026, 144), by simp, g.1, g.2⟩
                    · exact ⟨(2170, 144), by simp, g.1, g.2⟩)]
                  rfl
                · rw [hI2 sa j, if_neg (fun q => hzr q.2), hcl.2 (fun ⟨p, hp, hq⟩ => by
                    simp only [List.mem_cons, List.not_mem_nil, or_false] at hp
                    rcases hp with rfl | rfl | rfl | rfl | rfl | rfl <;> exact hzr (by omega))]
                  exact hce
          · cases h
        · cases h
    · cases h
  · cases h
theorem mx_8 : ∃ e r, (ops 8).drop 28 = e :: r ∧ e.1 = 47 := ⟨_, _, rfl, rfl⟩
theorem mj_8 : decode (mcode 8) 11 = .ok (.istore_n 3, 1) := by decide +kernel
theorem om_8 (S : STP go 8 n (11, i, len, a1, a2, a3) r) (h : m_rst3 2 3 4 0 50 0 144 28 go (11, i, len, a1, a2, a3) D 8 (ops 8) r ls st fs T s u C = true) : SemAt D 8 11 ls st fs T s u C := by
  intro ρ ls2 st2 fs2 M hC h1 h2 h3 h4
  obtain ⟨s0, u0, K, R, I⟩ := M
  unfold m_rst3 at h
  split at h
  · rename_i m w1 w2 w3
    obtain ⟨b0, t0, rfl, g0, g1⟩ := h1.cons
    obtain ⟨b1, t1, rfl, g2, g3⟩ := g1.cons
    obtain ⟨b2, t2, rfl, g4, g5⟩ := g3.cons
    obtain ⟨b3, t3, rfl, g6, g7⟩ := g5.cons
    cases g7.nil
    obtain ⟨c0, t4, rfl, g8, g9⟩ := h2.cons
    cases g9.nil
    cases (show b0 = vr m from g0)
    cases (show c0 = vi 0 from g8)
    split at h
    · rename_i kc kn F A ho
      rw [q7_eq] at ho
      obtain ⟨x1, x2, x3⟩ := h4.2.2 m _ ho
      cases hc : ((Nat.beq kc 2 && Nat.beq kn 0) && Nat.beq (ty w2) 0) with
      | false => rw [hc] at h; cases h
      | true =>
        rw [hc, cond_true] at h
        rw [Bool.and_eq_true, Bool.and_eq_true, beq_iff, beq_iff, beq_iff] at hc
        obtain ⟨⟨rfl, rfl⟩, hw2⟩ := hc
        obtain ⟨z2, rfl⟩ := VR.int hw2 g4
        split at h
        · rename_i p g q hp hg hq
          split at h
          · rename_i pc pn y1 y2 gc gn y3 y4 qc qn y5 y6 hop hog hoq
            rw [q7_eq] at hop hog hoq
            obtain ⟨p1, p2, p3⟩ := h4.2.2 p _ hop
            obtain ⟨o1, o2, o3⟩ := h4.2.2 g _ hog
            obtain ⟨q1, q2, q3⟩ := h4.2.2 q _ hoq
            cases hd : (((Nat.beq pc 20 && Nat.beq pn 144) && (Nat.beq gc 20 && Nat.beq gn 144)) && ((Nat.beq qc 21 && Nat.beq qn 144) && not (Nat.beq p g))) with
            | false => rw [hd] at h; cases h
            | true =>
              rw [hd, cond_true, fN_eq, fN_eq, fN_eq, bsetK_eq, bsetK_eq, bsetK_eq, dropN_eq] at h
              rw [Bool.and_eq_true, Bool.and_eq_true, Bool.and_eq_true, Bool.and_eq_true, Bool.and_eq_true, Bool.and_eq_true, beq_iff, beq_iff, beq_iff, beq_iff, beq_iff, beq_iff, Bool.not_eq_true'] at hd
              obtain ⟨⟨⟨rfl, rfl⟩, ⟨rfl, rfl⟩⟩, ⟨rfl, rfl⟩, hne⟩ := hd
              have npg : p ≠ g := fun q => by rw [beq_iff.mpr q] at hne; cases hne
              have p2 : K p = (20, 144) := p2
              have o2 : K g = (20, 144) := o2
              have q2 : K q = (21, 144) := q2
              have npq : p ≠ q := fun e => by rw [e, q2] at p2; cases p2
              have ngq : g ≠ q := fun e => by rw [e, q2] at o2; cases o2
              have hRp : R m 2 = some p := (x3 2 (Or.inl (show 2 < 20 by decide))).ref rfl hp
              have hRg : R m 3 = some g := (x3 3 (Or.inl (show 2 < 20 by decide))).ref rfl hg
              have hRq : R m 4 = some q := (x3 4 (Or.inl (show 2 < 20 by decide))).ref rfl hq
              refine s_istore_n (ls2 := [vr m, b1, vi z2, vi 0]) mj_8 (by show 3 < 4; decide) (by
                unfold st1 kl
                rfl) ?_
              refine mc_8 (fun x e => by cases e) x2 hRp p2 hRg o2 hRq q2 npg npq ngq (fun I2 hI2 => ?_)
              obtain ⟨e2, r2, j1, j2⟩ := mx_8
              obtain ⟨e3, r3, j3, j4⟩ := S.1 _ _ _ _ _ _ _ _ _ _ S.2.1 h
              rw [j1] at j3
              cases j3
              rw [j2] at j4
              refine j4 ρ [vr m, b1, vi z2, vi 144] [] fs2 _ hC ⟨rfl, g2, g4, rfl, trivial⟩ trivial h3 ?_
              have B1 : HR ρ (bset 7 T p (20, 144, [], pfill 144 0)) s u (s0, u0, K, R, fun b j => if b = p then I2 b j else I b j) := by
                refine h4.upd hop rfl rfl rfl (fun b j hb => ⟨if_neg hb, rfl⟩) (fun j hj2 => ⟨fun _ _ => ?_, fun q => (by cases q)⟩)
                have hj3 : j < 144 := by
                  rcases hj2 with e | e
                  · exact absurd e (by decide)
                  · exact e
                show VR ρ (dec (pget (pfill 144 0) j)) (vi (if p = p then I2 p j else I p j))
                rw [if_pos rfl, hI2 p j, if_pos ⟨rfl, hj3⟩, pget_pfill (by decide) _ _ hj3]
                rfl
              have hog1 : bget 7 (bset 7 T p (20, 144, [], pfill 144 0)) g = some (20, 144, y3, y4) := by
                rw [bget_bset 7 T p g _ (bget_lt 7 _ _ _ hop) (bget_lt 7 _ _ _ hog), if_neg (fun e => npg e.symm)]
                exact hog
              have B2 : HR ρ (bset 7 (bset 7 T p (20, 144, [], pfill 144 0)) g (20, 144, [], pfill 144 50)) s u (s0, u0, K, R, fun b j => if b = p ∨ b = g then I2 b j else I b j) := by
                refine B1.upd hog1 rfl rfl rfl (fun b j hb => ⟨?_, rfl⟩) (fun j hj2 => ⟨fun _ _ => ?_, fun q => (by cases q)⟩)
                · show (if b = p ∨ b = g then I2 b j else I b j) = if b = p then I2 b j else I b j
                  simp only [hb, or_false]
                · have hj3 : j < 144 := by
                    rcases hj2 with e | e
                    · exact absurd e (by decide)
                    · exact e
                  show VR ρ (dec (pget (pfill 144 50) j)) (vi (if g = p ∨ g = g then I2 g j else I g j))
                  rw [if_pos (Or.inr rfl), hI2 g j, if_neg (fun e => npg e.1.symm), if_pos ⟨rfl, hj3⟩, pget_pfill (by decide) _ _ hj3]
                  rfl
              have hoq1 : bget 7 (bset 7 (bset 7 T p (20, 144, [], pfill 144 0)) g (20, 144, [], pfill 144 50)) q = some (21, 144, y5, y6) := by
                rw [bget_bset 7 _ g q _ (bget_lt 7 _ _ _ hog) (bget_lt 7 _ _ _ hoq), if_neg (fun e => ngq e.symm), bget_bset 7 T p q _ (bget_lt 7 _ _ _ hop) (bget_lt 7 _ _ _ hoq), if_neg (fun e => npq e.symm)]
                exact hoq
              refine B2.upd hoq1 rfl rfl rfl (fun b j hb => ⟨?_, rfl⟩) (fun j hj2 => ⟨fun _ _ => ?_, fun q => (by cases q)⟩)
              · show I2 b j = if b = p ∨ b = g then I2 b j else I b j
                by_cases hbp : b = p ∨ b = g
                · rw [if_pos hbp]
                · rw [if_neg hbp, hI2 b j, if_neg (fun e => hbp (Or.inl e.1)), if_neg (fun e => hbp (Or.inr e.1)), if_neg (fun e => hb e.1)]
              · have hj3 : j < 144 := by
                  rcases hj2 with e | e
                  · exact absurd e (by decide)
                  · exact e
                show VR ρ (dec (pget (pfill 144 0) j)) (vi (I2 q j))
                rw [hI2 q j, if_neg (fun e => npq e.1.symm), if_neg (fun e => ngq e.1.symm), if_pos ⟨rfl, hj3⟩, pget_pfill (by decide) _ _ hj3]
                rfl
          · cases h
        · cases h
    · cases h
  · cases h
theorem mx_9 : ∃ e r, (ops 8).drop 40 = e :: r ∧ e.1 = 69 := ⟨_, _, rfl, rfl⟩
theorem mj_9 : decode (mcode 8) 48 = .ok (.istore_n 3, 1) := by decide +kernel
theorem om_9 (S : STP go 8 n (48, i, len, a1, a2, a3) r) (h : m_rst1 5 21 0 288 40 go (48, i, len, a1, a2, a3) D 8 (ops 8) r ls st fs T s u C = true) : SemAt D 8 48 ls st fs T s u C := by
  intro ρ ls2 st2 fs2 M hC h1 h2 h3 h4
  obtain ⟨s0, u0, K, R, I⟩ := M
  unfold m_rst1 at h
  split at h
  · rename_i m w1 w2 w3
    obtain ⟨b0, t0, rfl, g0, g1⟩ := h1.cons
    obtain ⟨b1, t1, rfl, g2, g3⟩ := g1.cons
    obtain ⟨b2, t2, rfl, g4, g5⟩ := g3.cons
    obtain ⟨b3, t3, rfl, g6, g7⟩ := g5.cons
    cases g7.nil
    obtain ⟨c0, t4, rfl, g8, g9⟩ := h2.cons
    cases g9.nil
    cases (show b0 = vr m from g0)
    cases (show c0 = vi 0 from g8)
    split at h
    · rename_i kc kn F A ho
      rw [q7_eq] at ho
      obtain ⟨x1, x2, x3⟩ := h4.2.2 m _ ho
      cases hc : ((Nat.beq kc 2 && Nat.beq kn 0) && Nat.beq (ty w2) 0) with
      | false => rw [hc] at h; cases h
      | true =>
        rw [hc, cond_true] at h
        rw [Bool.and_eq_true, Bool.and_eq_true, beq_iff, beq_iff, beq_iff] at hc
        obtain ⟨⟨rfl, rfl⟩, hw2⟩ := hc
        obtain ⟨z2, rfl⟩ := VR.int hw2 g4
        split at h
        · rename_i p hp
          split at h
          · rename_i pc pn y1 y2 hop
            rw [q7_eq] at hop
            obtain ⟨p1, p2, p3⟩ := h4.2.2 p _ hop
            cases hd : (Nat.beq pc 21 && Nat.beq pn 288) with
            | false => rw [hd] at h; cases h
            | true =>
              rw [hd, cond_true, fN_eq, bsetK_eq, dropN_eq] at h
              rw [Bool.and_eq_true, beq_iff, beq_iff] at hd
              obtain ⟨rfl, rfl⟩ := hd
              have hRp : R m 5 = some p := (x3 5 (Or.inl (show 2 < 20 by decide))).ref rfl hp
              refine s_istore_n (ls2 := [vr m, b1, vi z2, vi 0]) mj_9 (by show 3 < 4; decide) (by
                unfold st1 kl
                rfl) ?_
              refine mc_9 (fun x e => by cases e) x2 hRp p2 (fun I2 hI2 => ?_)
              obtain ⟨e2, r2, j1, j2⟩ := mx_9
              obtain ⟨e3, r3, j3, j4⟩ := S.1 _ _ _ _ _ _ _ _ _ _ S.2.1 h
              rw [j1] at j3
              cases j3
              rw [j2] at j4
              refine j4 ρ [vr m, b1, vi z2, vi 288] [] fs2 _ hC ⟨rfl, g2, g4, rfl, trivial⟩ trivial h3 ?_
              refine h4.upd hop rfl rfl rfl (fun b j hb => ⟨?_, rfl⟩) (fun j hj2 => ⟨fun _ _ => ?_, fun q => (by cases q)⟩)
              · show I2 b j = I b j
                rw [hI2 b j, if_neg (fun e => hb e.1)]
              · have hj3 : j < 288 := by
                  rcases hj2 with e | e
                  · exact absurd e (by decide)
                  · exact e
                show VR ρ (dec (pget (pfill 288 0) j)) (vi (I2 p j))
                rw [hI2 p j, if_pos ⟨rfl, hj3⟩, pget_pfill (by decide) _ _ hj3]
                rfl
          · cases h
        · cases h
    · cases h
  · cases h
theorem mx_10 : ∃ e r, (ops 289).drop 14 = e :: r ∧ e.1 = 20 := ⟨_, _, rfl, rfl⟩
theorem mj_10 : decode (mcode 289) 4 = .ok (.istore_n 3, 1) := by decide +kernel
theorem om_10 (S : STP go 289 n (4, i, len, a1, a2, a3) r) (h : m_fill 14 go (4, i, len, a1, a2, a3) D 289 (ops 289) r ls st fs T s u C = true) : SemAt D 289 4 ls st fs T s u C := by
  intro ρ ls2 st2 fs2 M hC h1 h2 h3 h4
  obtain ⟨s0, u0, K, R, I⟩ := M
  unfold m_fill at h
  split at h
  · rename_i a v w3 N
    obtain ⟨b0, t0, rfl, g0, g1⟩ := h1.cons
    obtain ⟨b1, t1, rfl, g2, g3⟩ := g1.cons
    obtain ⟨b2, t2, rfl, g4, g5⟩ := g3.cons
    obtain ⟨b3, t3, rfl, g6, g7⟩ := g5.cons
    cases g7.nil
    obtain ⟨c0, t4, rfl, g8, g9⟩ := h2.cons
    cases g9.nil
    cases (show b0 = vr a from g0)
    cases (show b2 = vi 0 from g4)
    cases (show c0 = vi (N : Int) from g8)
    split at h
    · rename_i kc kn z1 z2 ho
      rw [q7_eq] at ho
      obtain ⟨x1, x2, x3⟩ := h4.2.2 a _ ho
      cases hc : ((Nat.beq kc 20 && Nat.beq kn N) && (Nat.ble N 4096 && Nat.beq (ty v) 0)) with
      | false => rw [hc] at h; cases h
      | true =>
        rw [hc, cond_true] at h
        split at h
        · rename_i c he
          rw [fN_eq, bsetK_eq, dropN_eq] at h
          rw [Bool.and_eq_true, Bool.and_eq_true, Bool.and_eq_true, beq_iff, beq_iff, ble_iff, beq_iff] at hc
          obtain ⟨⟨rfl, rfl⟩, hN, hv⟩ := hc
          obtain ⟨x, rfl⟩ := VR.int hv g2
          obtain ⟨hc40, hdec⟩ := dec_ok he g2
          refine s_istore_n (ls2 := [vr a, vi x, vi 0, vi (kn : Int)]) mj_10 (by show 3 < 4; decide) (by
            unfold st1 kl
            rfl) ?_
          refine mc_10 x2 (by omega) (fun I2 hI2 => ?_)
          obtain ⟨e2, r2, j1, j2⟩ := mx_10
          obtain ⟨e3, r3, j3, j4⟩ := S.1 _ _ _ _ _ _ _ _ _ _ S.2.1 h
          rw [j1] at j3
          cases j3
          rw [j2] at j4
          refine j4 ρ [vr a, vi x, vi (kn : Int), vi (kn : Int)] [] fs2 _ hC ⟨rfl, g2, rfl, rfl, trivial⟩ trivial h3 ?_
          refine h4.upd ho rfl rfl rfl (fun b j hb => ⟨?_, rfl⟩) (fun j hj2 => ⟨fun _ _ => ?_, fun q => (by cases q)⟩)
          · show I2 b j = I b j
            rw [hI2 b j, if_neg (fun e => hb e.1)]
          · have hj3 : j < kn := by
              rcases hj2 with e | e
              · exact absurd e (by decide)
              · exact e
            show VR ρ (dec (pget (pfill kn c) j)) (vi (I2 a j))
            rw [hI2 a j, if_pos ⟨rfl, hj3⟩, pget_pfill hc40 _ _ hj3]
            exact hdec
        · cases h
    · cases h
  · cases h
theorem mx_1 : ∃ e r, (ops 186).drop 44 = e :: r ∧ e.1 = 82 := ⟨_, _, rfl, rfl⟩
theorem mj_1 : decode (mcode 186) 47 = .ok (.istore_n 1, 1) := by decide +kernel
theorem om_1 (S : STP go 186 n (47, i, len, a1, a2, a3) r) (h : m_keep 6 1 7 44 go (47, i, len, a1, a2, a3) D 186 (ops 186) r ls st fs T s u C = true) : SemAt D 186 47 ls st fs T s u C := by
  intro ρ ls2 st2 fs2 M hC h1 h2 h3 h4
  obtain ⟨s0, u0, K, R, I⟩ := M
  unfold m_keep at h
  split at h
  · rename_i m w0
    obtain ⟨b0, t0, rfl, g0, g1⟩ := h1.cons
    obtain ⟨b1, t1, rfl, g2, g3⟩ := g1.cons
    cases g3.nil
    obtain ⟨c0, t2, rfl, g4, g5⟩ := h2.cons
    cases g5.nil
    cases (show b0 = vr m from g0)
    cases (show c0 = vi 0 from g4)
    split at h
    · rename_i kc kn F A ho
      rw [q7_eq] at ho
      obtain ⟨w1, w2, w3⟩ := h4.2.2 m _ ho
      cases hc : (Nat.beq kc 12 && Nat.beq kn 0) with
      | false => rw [hc] at h; cases h
      | true =>
        rw [hc, cond_true] at h
        rw [Bool.and_eq_true, beq_iff, beq_iff] at hc
        obtain ⟨rfl, rfl⟩ := hc
        split at h
        · rename_i da sa hda hsa
          split at h
          · rename_i dc dn z1 z2 sc sn z3 z4 hod hos
            rw [q7_eq] at hod hos
            obtain ⟨x1, x2, x3⟩ := h4.2.2 da _ hod
            obtain ⟨y1, y2, y3⟩ := h4.2.2 sa _ hos
            cases hd : ((Nat.beq dc 20 && Nat.beq dn 27768) && ((Nat.beq sc 20 && Nat.beq sn 2314) && amOK (fget 7 F))) with
            | false => rw [hd] at h; cases h
            | true =>
              rw [hd, cond_true, bsetK_eq] at h
              rw [Bool.and_eq_true, Bool.and_eq_true, Bool.and_eq_true, Bool.and_eq_true, beq_iff, beq_iff, beq_iff, beq_iff] at hd
              obtain ⟨⟨rfl, rfl⟩, ⟨rfl, rfl⟩, ham⟩ := hd
              have hRd : R m 6 = some da := (w3 6 (Or.inl (show 12 < 20 by decide))).ref rfl hda
              have hRs : R m 1 = some sa := (w3 1 (Or.inl (show 12 < 20 by decide))).ref rfl hsa
              obtain ⟨a, ha1, ha2⟩ := amOK_ok ham (w3 7 (Or.inl (show 12 < 20 by decide))) rfl
              refine s_istore_n (ls2 := [vr m, vi 0]) mj_1 (by show 1 < 2; decide) (by
                unfold st1 kl
                rfl) ?_
              refine mc_1 (a := a) w2 hRd hRs x2 y2 ha1 ha2 (fun I2 hI2 => ?_)
              rw [dropN_eq] at h
              obtain ⟨e2, r2, j1, j2⟩ := mx_1
              obtain ⟨e3, r3, j3, j4⟩ := S.1 _ _ _ _ _ _ _ _ _ _ S.2.1 h
              rw [j1] at j3
              cases j3
              rw [j2] at j4
              refine j4 ρ [vr m, vi 2314] [] fs2 _ hC ⟨rfl, rfl, trivial⟩ trivial h3 ?_
              refine h4.upd hod rfl rfl rfl (fun b j hb => ⟨hI2 b j hb, rfl⟩) (fun j hj2 => ⟨fun _ q => (by cases q), fun q => (by cases q)⟩)
          · cases h
        · cases h
    · cases h
  · cases h
theorem mx_2 : ∃ e r, (ops 245).drop 18 = e :: r ∧ e.1 = 32 := ⟨_, _, rfl, rfl⟩
theorem mj_2 : decode (mcode 245) 6 = .ok (.istore_n 1, 1) := by decide +kernel
theorem om_2 (S : STP go 245 n (6, i, len, a1, a2, a3) r) (h : m_copy 2 1 1 18 go (6, i, len, a1, a2, a3) D 245 (ops 245) r ls st fs T s u C = true) : SemAt D 245 6 ls st fs T s u C := by
  intro ρ ls2 st2 fs2 M hC h1 h2 h3 h4
  obtain ⟨s0, u0, K, R, I⟩ := M
  unfold m_copy at h
  split at h
  · rename_i m hm
    obtain ⟨c0, t2, rfl, g4, g5⟩ := h2.cons
    cases g5.nil
    cases (show c0 = vi 0 from g4)
    split at h
    · rename_i kc kn F A ho
      rw [q7_eq] at ho
      obtain ⟨w1, w2, w3⟩ := h4.2.2 m _ ho
      cases hc : (Nat.beq kc 12 && Nat.beq kn 0) with
      | false => rw [hc] at h; cases h
      | true =>
        rw [hc, cond_true] at h
        rw [Bool.and_eq_true, beq_iff, beq_iff] at hc
        obtain ⟨rfl, rfl⟩ := hc
        split at h
        · rename_i da sa hda hsa
          split at h
          · rename_i dc dn z1 z2 sc sn G B hod hos
            rw [q7_eq] at hod hos
            obtain ⟨x1, x2, x3⟩ := h4.2.2 da _ hod
            obtain ⟨y1, y2, y3⟩ := h4.2.2 sa _ hos
            cases hd : ((Nat.beq dc 20 && Nat.beq dn 2314) && ((Nat.beq sc 20 && Nat.beq sn 2314) && not (Nat.beq da sa))) with
            | false => rw [hd] at h; cases h
            | true =>
              rw [hd, cond_true] at h
              rw [Bool.and_eq_true, Bool.and_eq_true, Bool.and_eq_true, Bool.and_eq_true, beq_iff, beq_iff, beq_iff, beq_iff, Bool.not_eq_true'] at hd
              obtain ⟨⟨rfl, rfl⟩, ⟨rfl, rfl⟩, hne⟩ := hd
              have hne2 : da ≠ sa := fun q => by rw [beq_iff.mpr q] at hne; cases hne
              have hRd : R m 2 = some da := (w3 2 (Or.inl (show 12 < 20 by decide))).ref rfl hda
              have hRs : R m 1 = some sa := (w3 1 (Or.inl (show 12 < 20 by decide))).ref rfl hsa
              obtain ⟨l1, q1, q2⟩ := klK_ok h h1
              obtain ⟨q3, h⟩ := lsetK_eq _ _ _ _ q2
              rw [bsetK_eq, dropN_eq] at h
              have hll : (kl ls2 1).length = ls2.length := by
                unfold kl
                split
                · exact List.length_set
                · rfl
              have hb0 : (kl ls2 1)[0]? = some (vr m) := by
                have e0 : ls2[0]? = some (vr m) := by
                  rcases h1.get 0 with ⟨b0, e1, e2⟩ | ⟨-, e2⟩
                  · rw [hm] at e2
                    rw [e1]
                    exact congrArg some e2
                  · rw [hm] at e2
                    cases e2
                unfold kl
                split
                · rename_i x hx
                  by_cases hz : 1 - 1 = 0
                  · rw [hz, e0] at hx
                    cases hx
                  · rw [List.getElem?_set_ne hz]
                    exact e0
                · exact e0
              have hbl : ∀ x, (kl ls2 1)[1 - 1]? ≠ some (vl x) := by
                intro x hx
                unfold kl at hx
                split at hx
                · rename_i x2 hx2
                  rw [List.getElem?_set_self (by
                    rcases Nat.lt_or_ge (1 - 1) ls2.length with q | q
                    · exact q
                    · rw [List.getElem?_eq_none q] at hx2; cases hx2)] at hx
                  cases hx
                · rename_i hnx
                  exact hnx x hx
              refine s_istore_n (ls2 := (kl ls2 1).set 1 (vi 0)) mj_2 (by show 1 < ls2.length; rw [← hll, ← q1.len]; exact q3) rfl ?_
              refine mc_2 w2 hRd hRs x2 y2 hne2 hb0 (by rw [← q1.len]; exact q3) hbl (fun I2 hI2 => ?_)
              obtain ⟨e2, r2, j1, j2⟩ := mx_2
              obtain ⟨e3, r3, j3, j4⟩ := S.1 _ _ _ _ _ _ _ _ _ _ S.2.1 h
              rw [j1] at j3
              cases j3
              rw [j2] at j4
              refine j4 ρ _ [] fs2 _ hC (q1.set 1 rfl) trivial h3 ?_
              refine h4.upd hod rfl rfl rfl (fun b j hb => ⟨?_, rfl⟩) (fun j hj2 => ⟨fun _ hG => ?_, fun q => (by cases q)⟩)
              · show I2 b j = I b j
                rw [hI2 b j, if_neg (fun q => hb q.1)]
              · have hj3 : j < 2314 := by
                  rcases hj2 with q | q
                  · exact absurd q (by decide)
                  · exact q
                show VR ρ (dec (pget B j)) (vi (I2 da j))
                rw [hI2 da j, if_pos ⟨rfl, hj3⟩]
                exact (y3 j (Or.inr hj3)).1 rfl hG
          · cases h
        · cases h
    · cases h
  · cases h
theorem mx_3 : ∃ e r, (ops 279).drop 30 = e :: r ∧ e.1 = 52 := ⟨_, _, rfl, rfl⟩
theorem mj_3 : decode (mcode 279) 26 = .ok (.istore_n 3, 1) := by decide +kernel
theorem om_3 (S : STP go 279 n (26, i, len, a1, a2, a3) r) (h : m_copy 2 1 3 30 go (26, i, len, a1, a2, a3) D 279 (ops 279) r ls st fs T s u C = true) : SemAt D 279 26 ls st fs T s u C := by
  intro ρ ls2 st2 fs2 M hC h1 h2 h3 h4
  obtain ⟨s0, u0, K, R, I⟩ := M
  unfold m_copy at h
  split at h
  · rename_i m hm
    obtain ⟨c0, t2, rfl, g4, g5⟩ := h2.cons
    cases g5.nil
    cases (show c0 = vi 0 from g4)
    split at h
    · rename_i kc kn F A ho
      rw [q7_eq] at ho
      obtain ⟨w1, w2, w3⟩ := h4.2.2 m _ ho
      cases hc : (Nat.beq kc 12 && Nat.beq kn 0) with
      | false => rw [hc] at h; cases h
      | true =>
        rw [hc, cond_true] at h
        rw [Bool.and_eq_true, beq_iff, beq_iff] at hc
        obtain ⟨rfl, rfl⟩ := hc
        split at h
        · rename_i da sa hda hsa
          split at h
          · rename_i dc dn z1 z2 sc sn G B hod hos
            rw [q7_eq] at hod hos
            obtain ⟨x1, x2, x3⟩ := h4.2.2 da _ hod
            obtain ⟨y1, y2, y3⟩ := h4.2.2 sa _ hos
            cases hd : ((Nat.beq dc 20 && Nat.beq dn 2314) && ((Nat.beq sc 20 && Nat.beq sn 2314) && not (Nat.beq da sa))) with
            | false => rw [hd] at h; cases h
            | true =>
              rw [hd, cond_true] at h
              rw [Bool.and_eq_true, Bool.and_eq_true, Bool.and_eq_true, Bool.and_eq_true, beq_iff, beq_iff, beq_iff, beq_iff, Bool.not_eq_true'] at hd
              obtain ⟨⟨rfl, rfl⟩, ⟨rfl, rfl⟩, hne⟩ := hd
              have hne2 : da ≠ sa := fun q => by rw [beq_iff.mpr q] at hne; cases hne
              have hRd : R m 2 = some da := (w3 2 (Or.inl (show 12 < 20 by decide))).ref rfl hda
              have hRs : R m 1 = some sa := (w3 1 (Or.inl (show 12 < 20 by decide))).ref rfl hsa
              obtain ⟨l1, q1, q2⟩ := klK_ok h h1
              obtain ⟨q3, h⟩ := lsetK_eq _ _ _ _ q2
              rw [bsetK_eq, dropN_eq] at h
              have hll : (kl ls2 3).length = ls2.length := by
                unfold kl
                split
                · exact List.length_set
                · rfl
              have hb0 : (kl ls2 3)[0]? = some (vr m) := by
                have e0 : ls2[0]? = some (vr m) := by
                  rcases h1.get 0 with ⟨b0, e1, e2⟩ | ⟨-, e2⟩
                  · rw [hm] at e2
                    rw [e1]
                    exact congrArg some e2
                  · rw [hm] at e2
                    cases e2
                unfold kl
                split
                · rename_i x hx
                  by_cases hz : 3 - 1 = 0
                  · rw [hz, e0] at hx
                    cases hx
                  · rw [List.getElem?_set_ne hz]
                    exact e0
                · exact e0
              have hbl : ∀ x, (kl ls2 3)[3 - 1]? ≠ some (vl x) := by
                intro x hx
                unfold kl at hx
                split at hx
                · rename_i x2 hx2
                  rw [List.getElem?_set_self (by
                    rcases Nat.lt_or_ge (3 - 1) ls2.length with q | q
                    · exact q
                    · rw [List.getElem?_eq_none q] at hx2; cases hx2)] at hx
                  cases hx
                · rename_i hnx
                  exact hnx x hx
              refine s_istore_n (ls2 := (kl ls2 3).set 3 (vi 0)) mj_3 (by show 3 < ls2.length; rw [← hll, ← q1.len]; exact q3) rfl ?_
              refine mc_3 w2 hRd hRs x2 y2 hne2 hb0 (by rw [← q1.len]; exact q3) hbl (fun I2 hI2 => ?_)
              obtain ⟨e2, r2, j1, j2⟩ := mx_3
              obtain ⟨e3, r3, j3, j4⟩ := S.1 _ _ _ _ _ _ _ _ _ _ S.2.1 h
              rw [j1] at j3
              cases j3
              rw [j2] at j4
              refine j4 ρ _ [] fs2 _ hC (q1.set 3 rfl) trivial h3 ?_
              refine h4.upd hod rfl rfl rfl (fun b j hb => ⟨?_, rfl⟩) (fun j hj2 => ⟨fun _ hG => ?_, fun q => (by cases q)⟩)
              · show I2 b j = I b j
                rw [hI2 b j, if_neg (fun q => hb q.1)]
              · have hj3 : j < 2314 := by
                  rcases hj2 with q | q
                  · exact absurd q (by decide)
                  · exact q
                show VR ρ (dec (pget B j)) (vi (I2 da j))
                rw [hI2 da j, if_pos ⟨rfl, hj3⟩]
                exact (y3 j (Or.inr hj3)).1 rfl hG
          · cases h
        · cases h
    · cases h
  · cases h
theorem mx_4 : ∃ e r, (ops 279).drop 78 = e :: r ∧ e.1 = 138 := ⟨_, _, rfl, rfl⟩
theorem mj_4 : decode (mcode 279) 108 = .ok (.istore 4, 2) := by decide +kernel
theorem om_4 (S : STP go 279 n (108, i, len, a1, a2, a3) r) (h : m_copy 1 2 4 78 go (108, i, len, a1, a2, a3) D 279 (ops 279) r ls st fs T s u C = true) : SemAt D 279 108 ls st fs T s u C := by
  intro ρ ls2 st2 fs2 M hC h1 h2 h3 h4
  obtain ⟨s0, u0, K, R, I⟩ := M
  unfold m_copy at h
  split at h
  · rename_i m hm
    obtain ⟨c0, t2, rfl, g4, g5⟩ := h2.cons
    cases g5.nil
    cases (show c0 = vi 0 from g4)
    split at h
    · rename_i kc kn F A ho
      rw [q7_eq] at ho
      obtain ⟨w1, w2, w3⟩ := h4.2.2 m _ ho
      cases hc : (Nat.beq kc 12 && Nat.beq kn 0) with
      | false => rw [hc] at h; cases h
      | true =>
        rw [hc, cond_true] at h
        rw [Bool.and_eq_true, beq_iff, beq_iff] at hc
        obtain ⟨rfl, rfl⟩ := hc
        split at h
        · rename_i da sa hda hsa
          split at h
          · rename_i dc dn z1 z2 sc sn G B hod hos
            rw [q7_eq] at hod hos
            obtain ⟨x1, x2, x3⟩ := h4.2.2 da _ hod
            obtain ⟨y1, y2, y3⟩ := h4.2.2 sa _ hos
            cases hd : ((Nat.beq dc 20 && Nat.beq dn 2314) && ((Nat.beq sc 20 && Nat.beq sn 2314) && not (Nat.beq da sa))) with
            | false => rw [hd] at h; cases h
            | true =>
              rw [hd, cond_true] at h
              rw [Bool.and_eq_true, Bool.and_eq_true, Bool.and_eq_true, Bool.and_eq_true, beq_iff, beq_iff, beq_iff, beq_iff, Bool.not_eq_true'] at hd
              obtain ⟨⟨rfl, rfl⟩, ⟨rfl, rfl⟩, hne⟩ := hd
              have hne2 : da ≠ sa := fun q => by rw [beq_iff.mpr q] at hne; cases hne
              have hRd : R m 1 = some da := (w3 1 (Or.inl (show 12 < 20 by decide))).ref rfl hda
              have hRs : R m 2 = some sa := (w3 2 (Or.inl (show 12 < 20 by decide))).ref rfl hsa
              obtain ⟨l1, q1, q2⟩ := klK_ok h h1
              obtain ⟨q3, h⟩ := lsetK_eq _ _ _ _ q2
              rw [bsetK_eq, dropN_eq] at h
              have hll : (kl ls2 4).length = ls2.length := by
                unfold kl
                split
                · exact List.length_set
                · rfl
              have hb0 : (kl ls2 4)[0]? = some (vr m) := by
                have e0 : ls2[0]? = some (vr m) := by
                  rcases h1.get 0 with ⟨b0, e1, e2⟩ | ⟨-, e2⟩
                  · rw [hm] at e2
                    rw [e1]
                    exact congrArg some e2
                  · rw [hm] at e2
                    cases e2
                unfold kl
                split
                · rename_i x hx
                  by_cases hz : 4 - 1 = 0
                  · rw [hz, e0] at hx
                    cases hx
                  · rw [List.getElem?_set_ne hz]
                    exact e0
                · exact e0
              have hbl : ∀ x, (kl ls2 4)[4 - 1]? ≠ some (vl x) := by
                intro x hx
                unfold kl at hx
                split at hx
                · rename_i x2 hx2
                  rw [List.getElem?_set_self (by
                    rcases Nat.lt_or_ge (4 - 1) ls2.length with q | q
                    · exact q
                    · rw [List.getElem?_eq_none q] at hx2; cases hx2)] at hx
                  cases hx
                · rename_i hnx
                  exact hnx x hx
              refine s_istore (ls2 := (kl ls2 4).set 4 (vi 0)) mj_4 (by show 4 < ls2.length; rw [← hll, ← q1.len]; exact q3) rfl ?_
              refine mc_4 w2 hRd hRs x2 y2 hne2 hb0 (by rw [← q1.len]; exact q3) hbl (fun I2 hI2 => ?_)
              obtain ⟨e2, r2, j1, j2⟩ := mx_4
              obtain ⟨e3, r3, j3, j4⟩ := S.1 _ _ _ _ _ _ _ _ _ _ S.2.1 h
              rw [j1] at j3
              cases j3
              rw [j2] at j4
              refine j4 ρ _ [] fs2 _ hC (q1.set 4 rfl) trivial h3 ?_
              refine h4.upd hod rfl rfl rfl (fun b j hb => ⟨?_, rfl⟩) (fun j hj2 => ⟨fun _ hG => ?_, fun q => (by cases q)⟩)
              · show I2 b j = I b j
                rw [hI2 b j, if_neg (fun q => hb q.1)]
              · have hj3 : j < 2314 := by
                  rcases hj2 with q | q
                  · exact absurd q (by decide)
                  · exact q
                show VR ρ (dec (pget B j)) (vi (I2 da j))
                rw [hI2 da j, if_pos ⟨rfl, hj3⟩]
                exact (y3 j (Or.inr hj3)).1 rfl hG
          · cases h
        · cases h
    · cases h
  · cases h
theorem mx_5 : ∃ e r, (ops 280).drop 24 = e :: r ∧ e.1 = 42 := ⟨_, _, rfl, rfl⟩
theorem mj_5 : decode (mcode 280) 16 = .ok (.istore_n 2, 1) := by decide +kernel
theorem om_5 (S : STP go 280 n (16, i, len, a1, a2, a3) r) (h : m_copy 2 1 2 24 go (16, i, len, a1, a2, a3) D 280 (ops 280) r ls st fs T s u C = true) : SemAt D 280 16 ls st fs T s u C := by
  intro ρ ls2 st2 fs2 M hC h1 h2 h3 h4
  obtain ⟨s0, u0, K, R, I⟩ := M
  unfold m_copy at h
  split at h
  · rename_i m hm
    obtain ⟨c0, t2, rfl, g4, g5⟩ := h2.cons
    cases g5.nil
    cases (show c0 = vi 0 from g4)
    split at h
    · rename_i kc kn F A ho
      rw [q7_eq] at ho
      obtain ⟨w1, w2, w3⟩ := h4.2.2 m _ ho
      cases hc : (Nat.beq kc 12 && Nat.beq kn 0) with
      | false => rw [hc] at h; cases h
      | true =>
        rw [hc, cond_true] at h
        rw [Bool.and_eq_true, beq_iff, beq_iff] at hc
        obtain ⟨rfl, rfl⟩ := hc
        split at h
        · rename_i da sa hda hsa
          split at h
          · rename_i dc dn z1 z2 sc sn G B hod hos
            rw [q7_eq] at hod hos
            obtain ⟨x1, x2, x3⟩ := h4.2.2 da _ hod
            obtain ⟨y1, y2, y3⟩ := h4.2.2 sa _ hos
            cases hd : ((Nat.beq dc 20 && Nat.beq dn 2314) && ((Nat.beq sc 20 && Nat.beq sn 2314) && not (Nat.beq da sa))) with
            | false => rw [hd] at h; cases h
            | true =>
              rw [hd, cond_true] at h
              rw [Bool.and_eq_true, Bool.and_eq_true, Bool.and_eq_true, Bool.and_eq_true, beq_iff, beq_iff, beq_iff, beq_iff, Bool.not_eq_true'] at hd
              obtain ⟨⟨rfl, rfl⟩, ⟨rfl, rfl⟩, hne⟩ := hd
              have hne2 : da ≠ sa := fun q => by rw [beq_iff.mpr q] at hne; cases hne
              have hRd : R m 2 = some da := (w3 2 (Or.inl (show 12 < 20 by decide))).ref rfl hda
              have hRs : R m 1 = some sa := (w3 1 (Or.inl (show 12 < 20 by decide))).ref rfl hsa
              obtain ⟨l1, q1, q2⟩ := klK_ok h h1
              obtain ⟨q3, h⟩ := lsetK_eq _ _ _ _ q2
              rw [bsetK_eq, dropN_eq] at h
              have hll : (kl ls2 2).length = ls2.length := by
                unfold kl
                split
                · exact List.length_set
                · rfl
              have hb0 : (kl ls2 2)[0]? = some (vr m) := by
                have e0 : ls2[0]? = some (vr m) := by
                  rcases h1.get 0 with ⟨b0, e1, e2⟩ | ⟨-, e2⟩
                  · rw [hm] at e2
                    rw [e1]
                    exact congrArg some e2
                  · rw [hm] at e2
                    cases e2
                unfold kl
                split
                · rename_i x hx
                  by_cases hz : 2 - 1 = 0
                  · rw [hz, e0] at hx
                    cases hx
                  · rw [List.getElem?_set_ne hz]
                    exact e0
                · exact e0
              have hbl : ∀ x, (kl ls2 2)[2 - 1]? ≠ some (vl x) := by
                intro x hx
                unfold kl at hx
                split at hx
                · rename_i x2 hx2
                  rw [List.getElem?_set_self (by
                    rcases Nat.lt_or_ge (2 - 1) ls2.length with q | q
                    · exact q
                    · rw [List.getElem?_eq_none q] at hx2; cases hx2)] at hx
                  cases hx
                · rename_i hnx
                  exact hnx x hx
              refine s_istore_n (ls2 := (kl ls2 2).set 2 (vi 0)) mj_5 (by show 2 < ls2.length; rw [← hll, ← q1.len]; exact q3) rfl ?_
              refine mc_5 w2 hRd hRs x2 y2 hne2 hb0 (by rw [← q1.len]; exact q3) hbl (fun I2 hI2 => ?_)
              obtain ⟨e2, r2, j1, j2⟩ := mx_5
              obtain ⟨e3, r3, j3, j4⟩ := S.1 _ _ _ _ _ _ _ _ _ _ S.2.1 h
              rw [j1] at j3
              cases j3
              rw [j2] at j4
              refine j4 ρ _ [] fs2 _ hC (q1.set 2 rfl) trivial h3 ?_
              refine h4.upd hod rfl rfl rfl (fun b j hb => ⟨?_, rfl⟩) (fun j hj2 => ⟨fun _ hG => ?_, fun q => (by cases q)⟩)
              · show I2 b j = I b j
                rw [hI2 b j, if_neg (fun q => hb q.1)]
              · have hj3 : j < 2314 := by
                  rcases hj2 with q | q
                  · exact absurd q (by decide)
                  · exact q
                show VR ρ (dec (pget B j)) (vi (I2 da j))
                rw [hI2 da j, if_pos ⟨rfl, hj3⟩]
                exact (y3 j (Or.inr hj3)).1 rfl hG
          · cases h
        · cases h
    · cases h
  · cases h
theorem mx_6 : ∃ e r, (ops 280).drop 53 = e :: r ∧ e.1 = 91 := ⟨_, _, rfl, rfl⟩
theorem mj_6 : decode (mcode 280) 65 = .ok (.istore_n 3, 1) := by decide +kernel
theorem om_6 (S : STP go 280 n (65, i, len, a1, a2, a3) r) (h : m_copy 1 2 3 53 go (65, i, len, a1, a2, a3) D 280 (ops 280) r ls st fs T s u C = true) : SemAt D 280 65 ls st fs T s u C := by
  intro ρ ls2 st2 fs2 M hC h1 h2 h3 h4
  obtain ⟨s0, u0, K, R, I⟩ := M
  unfold m_copy at h
  split at h
  · rename_i m hm
    obtain ⟨c0, t2, rfl, g4, g5⟩ := h2.cons
    cases g5.nil
    cases (show c0 = vi 0 from g4)
    split at h
    · rename_i kc kn F A ho
      rw [q7_eq] at ho
      obtain ⟨w1, w2, w3⟩ := h4.2.2 m _ ho
      cases hc : (Nat.beq kc 12 && Nat.beq kn 0) with
      | false => rw [hc] at h; cases h
      | true =>
        rw [hc, cond_true] at h
        rw [Bool.and_eq_true, beq_iff, beq_iff] at hc
        obtain ⟨rfl, rfl⟩ := hc
        split at h
        · rename_i da sa hda hsa
          split at h
          · rename_i dc dn z1 z2 sc sn G B hod hos
            rw [q7_eq] at hod hos
            obtain ⟨x1, x2, x3⟩ := h4.2.2 da _ hod
            obtain ⟨y1, y2, y3⟩ := h4.2.2 sa _ hos
            cases hd : ((Nat.beq dc 20 && Nat.beq dn 2314) && ((Nat.beq sc 20 && Nat.beq sn 2314) && not (Nat.beq da sa))) with
            | false => rw [hd] at h; cases h
            | true =>
              rw [hd, cond_true] at h
              rw [Bool.and_eq_true, Bool.and_eq_true, Bool.and_eq_true, Bool.and_eq_true, beq_iff, beq_iff, beq_iff, beq_iff, Bool.not_eq_true'] at hd
              obtain ⟨⟨rfl, rfl⟩, ⟨rfl, rfl⟩, hne⟩ := hd
              have hne2 : da ≠ sa := fun q => by rw [beq_iff.mpr q] at hne; cases hne
              have hRd : R m 1 = some da := (w3 1 (Or.inl (show 12 < 20 by decide))).ref rfl hda
              have hRs : R m 2 = some sa := (w3 2 (Or.inl (show 12 < 20 by decide))).ref rfl hsa
              obtain ⟨l1, q1, q2⟩ := klK_ok h h1
              obtain ⟨q3, h⟩ := lsetK_eq _ _ _ _ q2
              rw [bsetK_eq, dropN_eq] at h
              have hll : (kl ls2 3).length = ls2.length := by
                unfold kl
                split
                · exact List.length_set
                · rfl
              have hb0 : (kl ls2 3)[0]? = some (vr m) := by
                have e0 : ls2[0]? = some (vr m) := by
                  rcases h1.get 0 with ⟨b0, e1, e2⟩ | ⟨-, e2⟩
                  · rw [hm] at e2
                    rw [e1]
                    exact congrArg some e2
                  · rw [hm] at e2
                    cases e2
                unfold kl
                split
                · rename_i x hx
                  by_cases hz : 3 - 1 = 0
                  · rw [hz, e0] at hx
                    cases hx
                  · rw [List.getElem?_set_ne hz]
                    exact e0
                · exact e0
              have hbl : ∀ x, (kl ls2 3)[3 - 1]? ≠ some (vl x) := by
                intro x hx
                unfold kl at hx
                split at hx
                · rename_i x2 hx2
                  rw [List.getElem?_set_self (by
                    rcases Nat.lt_or_ge (3 - 1) ls2.length with q | q
                    · exact q
                    · rw [List.getElem?_eq_none q] at hx2; cases hx2)] at hx
                  cases hx
                · rename_i hnx
                  exact hnx x hx
              refine s_istore_n (ls2 := (kl ls2 3).set 3 (vi 0)) mj_6 (by show 3 < ls2.length; rw [← hll, ← q1.len]; exact q3) rfl ?_
              refine mc_6 w2 hRd hRs x2 y2 hne2 hb0 (by rw [← q1.len]; exact q3) hbl (fun I2 hI2 => ?_)
              obtain ⟨e2, r2, j1, j2⟩ := mx_6
              obtain ⟨e3, r3, j3, j4⟩ := S.1 _ _ _ _ _ _ _ _ _ _ S.2.1 h
              rw [j1] at j3
              cases j3
              rw [j2] at j4
              refine j4 ρ _ [] fs2 _ hC (q1.set 3 rfl) trivial h3 ?_
              refine h4.upd hod rfl rfl rfl (fun b j hb => ⟨?_, rfl⟩) (fun j hj2 => ⟨fun _ hG => ?_, fun q => (by cases q)⟩)
              · show I2 b j = I b j
                rw [hI2 b j, if_neg (fun q => hb q.1)]
              · have hj3 : j < 2314 := by
                  rcases hj2 with q | q
                  · exact absurd q (by decide)
                  · exact q
                show VR ρ (dec (pget B j)) (vi (I2 da j))
                rw [hI2 da j, if_pos ⟨rfl, hj3⟩]
                exact (y3 j (Or.inr hj3)).1 rfl hG
          · cases h
        · cases h
    · cases h
  · cases h
theorem mac_ok {k : Nat} (S : STP go k n (pc, i, len, a1, a2, a3) r) (hm : macB k pc a2 = true) (h0 : a2 ≠ 0) (h : x_mac go (pc, i, len, a1, a2, a3) D k (ops k) r ls st fs T s u C = true) : SemAt D k pc ls st fs T s u C := by
  match a2, hm, h0, h, S with
  | 0, hm, h0, h, S => exact absurd rfl h0
  | 1, hm, h0, h, S =>
    have hm : (Nat.beq k 186 && Nat.beq pc 47) = true := hm
    rw [Bool.and_eq_true, beq_iff, beq_iff] at hm
    obtain ⟨rfl, rfl⟩ := hm
    exact om_1 S h
  | 2, hm, h0, h, S =>
    have hm : (Nat.beq k 245 && Nat.beq pc 6) = true := hm
    rw [Bool.and_eq_true, beq_iff, beq_iff] at hm
    obtain ⟨rfl, rfl⟩ := hm
    exact om_2 S h
  | 3, hm, h0, h, S =>
    have hm : (Nat.beq k 279 && Nat.beq pc 26) = true := hm
    rw [Bool.and_eq_true, beq_iff, beq_iff] at hm
    obtain ⟨rfl, rfl⟩ := hm
    exact om_3 S h
  | 4, hm, h0, h, S =>
    have hm : (Nat.beq k 279 && Nat.beq pc 108) = true := hm
    rw [Bool.and_eq_true, beq_iff, beq_iff] at hm
    obtain ⟨rfl, rfl⟩ := hm
    exact om_4 S h
  | 5, hm, h0, h, S =>
    have hm : (Nat.beq k 280 && Nat.beq pc 16) = true := hm
    rw [Bool.and_eq_true, beq_iff, beq_iff] at hm
    obtain ⟨rfl, rfl⟩ := hm
    exact om_5 S h
  | 6, hm, h0, h, S =>
    have hm : (Nat.beq k 280 && Nat.beq pc 65) = true := hm
    rw [Bool.and_eq_true, beq_iff, beq_iff] at hm
    obtain ⟨rfl, rfl⟩ := hm
    exact om_6 S h
  | 7, hm, h0, h, S =>
    have hm : (Nat.beq k 187 && Nat.beq pc 1) = true := hm
    rw [Bool.and_eq_true, beq_iff, beq_iff] at hm
    obtain ⟨rfl, rfl⟩ := hm
    exact om_7 S h
  | 8, hm, h0, h, S =>
    have hm : (Nat.beq k 8 && Nat.beq pc 11) = true := hm
    rw [Bool.and_eq_true, beq_iff, beq_iff] at hm
    obtain ⟨rfl, rfl⟩ := hm
    exact om_8 S h
  | 9, hm, h0, h, S =>
    have hm : (Nat.beq k 8 && Nat.beq pc 48) = true := hm
    rw [Bool.and_eq_true, beq_iff, beq_iff] at hm
    obtain ⟨rfl, rfl⟩ := hm
    exact om_9 S h
  | 10, hm, h0, h, S =>
    have hm : (Nat.beq k 289 && Nat.beq pc 4) = true := hm
    rw [Bool.and_eq_true, beq_iff, beq_iff] at hm
    obtain ⟨rfl, rfl⟩ := hm
    exact om_10 S h
  | q + 11, hm, h0, h, S => cases (show false = true from h)
end
