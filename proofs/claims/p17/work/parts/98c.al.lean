/-! both sides alike: the tape, where the latest text was wrong -/
def dAL : List EF := [(54, 4, 5), (19, 0, 1), (19, 3, 4), (20, 0, 400), (40, 15, 16), (48, 0, 400), (40, 16, 17), (54, 10, 11), (40, 17, 18)]
def AL (X Y : Nat) (Γ : Nat → Nat) (M : MM) : Prop := (∃ (z : Nat) (l : Int), PSt (gZ 0 z) 474 [vr X, vi l] Γ M ∧ PSt (gZ 0 z) 479 [vr Y, vi l] Γ M) ∧ M.2.2.2.2 X 10 = M.2.2.2.2 Y 17
set_option maxRecDepth 100000 in
theorem keep474 {t : KT} {g : GG} {X : Nat} {l : Int} {Γ Γ2 : Nat → Nat} {M M2 : MM} (hB : (dAL.all fun q => (kEff t).all fun e => efDis e q) = true) (hT : HTy Yt Γ M) (hT2 : HTy Yt Γ2 M2) (hF : FRM (kEff t) Γ M M2) (hG : GEX M.1 Γ Γ2) (h : PSt g 474 [vr X, vi l] Γ M) : PSt g 474 [vr X, vi l] Γ2 M2 := by
  rw [List.all_eq_true] at hB
  exact P474_fr g [vr X, vi l] Γ Γ2 M M2 (kEff t) hT hT2 hF hG (fun q hq e he => List.all_eq_true.mp (hB q (by
    simp only [List.mem_cons, List.not_mem_nil, or_false] at hq
    unfold dAL
    rcases hq with rfl | rfl | rfl | rfl <;> decide)) e he) h
set_option maxRecDepth 100000 in
theorem P479_dep {q : EF} (hq : q ∈ dept 479) : q ∈ dAL := by
  have hq : q ∈ [(40, 15, 16), (48, 0, 400), (40, 16, 17)] := hq
  simp only [List.mem_cons, List.not_mem_nil, or_false] at hq
  unfold dAL
  rcases hq with rfl | rfl | rfl <;> decide
set_option maxRecDepth 100000 in
theorem keep479 {t : KT} {g : GG} {X : Nat} {l : Int} {Γ Γ2 : Nat → Nat} {M M2 : MM} (hB : (dAL.all fun q => (kEff t).all fun e => efDis e q) = true) (hT : HTy Yt Γ M) (hT2 : HTy Yt Γ2 M2) (hF : FRM (kEff t) Γ M M2) (hG : GEX M.1 Γ Γ2) (h : PSt g 479 [vr X, vi l] Γ M) : PSt g 479 [vr X, vi l] Γ2 M2 := by
  rw [List.all_eq_true] at hB
  exact PSt_ok g 479 [vr X, vi l] Γ Γ2 M M2 (kEff t) rfl hT hT2 hF hG (fun q hq e he => List.all_eq_true.mp (hB q (P479_dep hq)) e he) h
set_option maxRecDepth 100000 in
theorem al_xi {t : KT} {L : Nat} {xs : Nat → Int32} {X Y a b : Nat} {Γ Γ2 : Nat → Nat} {M M2 : MM} (j : Nat) (hB : ((kEff t).all fun e => efDis e (54, j, j + 1)) = true) (hI : INV L xs X Y a b Γ M) (hF : FRM (kEff t) Γ M M2) (hG : GEX M.1 Γ Γ2) : M2.2.2.2.2 X j = M.2.2.2.2 X j := by
  obtain ⟨hT, -, -, -, -, gX, -⟩ := hI
  obtain ⟨-, c2, -⟩ := cE hT hF hG (lo := j) (hi := j + 1) (fun e he => List.all_eq_true.mp hB e he) gX (by decide)
  exact c2 j (Nat.le_refl _) (Nat.lt_succ_self _)
set_option maxRecDepth 100000 in
theorem al_yi {t : KT} {L : Nat} {xs : Nat → Int32} {X Y a b : Nat} {Γ Γ2 : Nat → Nat} {M M2 : MM} (j : Nat) (hB : ((kEff t).all fun e => efDis e (40, j, j + 1)) = true) (hI : INV L xs X Y a b Γ M) (hF : FRM (kEff t) Γ M M2) (hG : GEX M.1 Γ Γ2) : M2.2.2.2.2 Y j = M.2.2.2.2 Y j := by
  obtain ⟨hT, -, -, -, -, -, gY, -⟩ := hI
  obtain ⟨-, c2, -⟩ := cE hT hF hG (lo := j) (hi := j + 1) (fun e he => List.all_eq_true.mp hB e he) gY (by decide)
  exact c2 j (Nat.le_refl _) (Nat.lt_succ_self _)
set_option maxRecDepth 100000 in
theorem AL_keep {t : KT} {L : Nat} {xs : Nat → Int32} {X Y a b a2 b2 : Nat} {Γ Γ2 : Nat → Nat} {M M2 : MM} (hB : (dAL.all fun q => (kEff t).all fun e => efDis e q) = true) (hI : INV L xs X Y a b Γ M) (hI2 : INV L xs X Y a2 b2 Γ2 M2) (hF : FRM (kEff t) Γ M M2) (hG : GEX M.1 Γ Γ2) (h : AL X Y Γ M) : AL X Y Γ2 M2 := by
  obtain ⟨⟨z, l, h1, h2⟩, h3⟩ := h
  have hB2 := hB
  rw [List.all_eq_true] at hB2
  exact ⟨⟨z, l, keep474 hB hI.1 hI2.1 hF hG h1, keep479 hB hI.1 hI2.1 hF hG h2⟩, by rw [al_xi 10 (hB2 (54, 10, 11) (by decide)) hI hF hG, al_yi 17 (hB2 (40, 17, 18) (by decide)) hI hF hG]; exact h3⟩
set_option maxRecDepth 100000 in
theorem kq {t1 t2 : KT} {L : Nat} {xs : Nat → Int32} {X Y a b a2 b2 : Nat} {Γ Γ1 Γ2 : Nat → Nat} {M M1 M2 : MM} (b1 : (([(54, 10, 11), (40, 17, 18)] : List EF).all fun q => (kEff t1).all fun e => efDis e q) = true) (b2' : (([(54, 10, 11), (40, 17, 18)] : List EF).all fun q => (kEff t2).all fun e => efDis e q) = true) (hI : INV L xs X Y a b Γ M) (F1 : FRM (kEff t1) Γ M M1) (G1 : GEX M.1 Γ Γ1) (hI1 : INV L xs X Y a2 b2 Γ1 M1) (F2 : FRM (kEff t2) Γ1 M1 M2) (G2 : GEX M1.1 Γ1 Γ2) (h : M.2.2.2.2 X 10 = M.2.2.2.2 Y 17) : M2.2.2.2.2 X 10 = M2.2.2.2.2 Y 17 := by
  rw [List.all_eq_true] at b1 b2'
  rw [al_xi 10 (b2' (54, 10, 11) (by decide)) hI1 F2 G2, al_yi 17 (b2' (40, 17, 18) (by decide)) hI1 F2 G2, al_xi 10 (b1 (54, 10, 11) (by decide)) hI F1 G1, al_yi 17 (b1 (40, 17, 18) (by decide)) hI F1 G1]
  exact h
/-- the Y side's cells, the X side's cells alone -/
def dX : List EF := [(54, 4, 5), (19, 0, 1), (19, 3, 4), (20, 0, 400)]
def dY : List EF := [(40, 15, 16), (48, 0, 400), (40, 16, 17)]
set_option maxRecDepth 100000 in
theorem kX474 {t : KT} {g : GG} {X : Nat} {l : Int} {Γ Γ2 : Nat → Nat} {M M2 : MM} (hB : (dX.all fun q => (kEff t).all fun e => efDis e q) = true) (hT : HTy Yt Γ M) (hT2 : HTy Yt Γ2 M2) (hF : FRM (kEff t) Γ M M2) (hG : GEX M.1 Γ Γ2) (h : PSt g 474 [vr X, vi l] Γ M) : PSt g 474 [vr X, vi l] Γ2 M2 := by
  rw [List.all_eq_true] at hB
  exact P474_fr g [vr X, vi l] Γ Γ2 M M2 (kEff t) hT hT2 hF hG (fun q hq e he => List.all_eq_true.mp (hB q hq) e he) h
set_option maxRecDepth 100000 in
theorem kY479 {t : KT} {g : GG} {X : Nat} {l : Int} {Γ Γ2 : Nat → Nat} {M M2 : MM} (hB : (dY.all fun q => (kEff t).all fun e => efDis e q) = true) (hT : HTy Yt Γ M) (hT2 : HTy Yt Γ2 M2) (hF : FRM (kEff t) Γ M M2) (hG : GEX M.1 Γ Γ2) (h : PSt g 479 [vr X, vi l] Γ M) : PSt g 479 [vr X, vi l] Γ2 M2 := by
  rw [List.all_eq_true] at hB
  exact PSt_ok g 479 [vr X, vi l] Γ Γ2 M M2 (kEff t) rfl hT hT2 hF hG (fun q hq e he => List.all_eq_true.mp (hB q (by
    have hq : q ∈ [(40, 15, 16), (48, 0, 400), (40, 16, 17)] := hq
    simp only [List.mem_cons, List.not_mem_nil, or_false] at hq
    unfold dY
    rcases hq with rfl | rfl | rfl <;> decide)) e he) h
set_option maxRecDepth 100000 in
/-- another number that wants the same bytes -/
theorem z474 {n m z z2 X : Nat} {l : Int} {Γ : Nat → Nat} {M : MM} (hz : ∀ j : Nat, (j : Int) < l → tqB (gZ m z2) j = tqB (gZ n z) j) (h : PSt (gZ n z) 474 [vr X, vi l] Γ M) : PSt (gZ m z2) 474 [vr X, vi l] Γ M := by
  obtain ⟨h1, b, h2, h3, c, h4, h5, h6, h7⟩ := (show taP (gZ n z) X l Γ M from h)
  exact (show taP (gZ m z2) X l Γ M from ⟨h1, b, h2, h3, c, h4, h5, h6, fun j hj => (h7 j hj).trans (hz j hj).symm⟩)
set_option maxRecDepth 100000 in
theorem z479 {n m z z2 X : Nat} {l : Int} {Γ : Nat → Nat} {M : MM} (hz : ∀ j : Nat, (j : Int) < l → tqB (gZ m z2) j = tqB (gZ n z) j) (h : PSt (gZ n z) 479 [vr X, vi l] Γ M) : PSt (gZ m z2) 479 [vr X, vi l] Γ M := by
  obtain ⟨h1, h2, h3, h4⟩ := (show P479 (gZ n z) [vr X, vi l] Γ M from h)
  exact (show P479 (gZ m z2) [vr X, vi l] Γ M from ⟨h1, h2, h3, fun j hj => (h4 j hj).trans (hz j hj).symm⟩)
set_option maxRecDepth 100000 in
theorem le474 {g : GG} {X : Nat} {l : Int} {Γ : Nat → Nat} {M : MM} (hT : HTy Yt Γ M) (h : PSt g 474 [vr X, vi l] Γ M) : 0 ≤ l ∧ l ≤ 400 := taP_le hT (show taP g X l Γ M from h)
set_option maxRecDepth 100000 in
theorem a478 {g : GG} {X : Nat} {l : Int} {Γ : Nat → Nat} {M : MM} (h : PSt g 478 [vr X, vi l] Γ M) : PSt g 474 [vr X, vi (fedL l)] Γ M := (show taP g X (fedL l) Γ M from h)
set_option maxRecDepth 100000 in
theorem a480 {g : GG} {X : Nat} {l : Int} {Γ : Nat → Nat} {M : MM} (h : PSt g 480 [vr X, vi l] Γ M) : PSt g 479 [vr X, vi (fedL l)] Γ M := (show P480 g [vr X, vi l] Γ M from h)
set_option maxRecDepth 100000 in
/-- twenty bytes more are wanted -/
theorem feed_z (n z0 : Nat) (l : Int) (a : List Int) (h0 : 0 ≤ l) : ∃ z, (∀ j : Nat, (j : Int) < l → tqB (gZ n z) j = tqB (gZ 0 z0) j) ∧ ∀ q r : Nat, q < 5 → r < 4 → tqB (gZ n z) (l.toNat + 4 * q + r) = aNd (sHr (a.getD q 0) (24 - 8 * (r : Int))) 255 := by
  obtain ⟨z, hz⟩ := tg_of (l.toNat + 20) (fun j => if (j : Int) < l then tqB (gZ 0 z0) j else aNd (sHr (a.getD ((j - l.toNat) / 4) 0) (24 - 8 * (((j - l.toNat) % 4 : Nat) : Int))) 255) (fun j _ => by
    show 0 ≤ (if (j : Int) < l then _ else _) ∧ (if (j : Int) < l then _ else _) ≤ (255 : Int)
    split
    · exact tgN_b _ _
    · exact aNd_bd (by decide) (by decide))
  have e : ∀ j, tqB (gZ n (512 * z)) j = tqN z j := fun j => by
    show tqN (512 * z / 512) j = _
    rw [Nat.mul_div_cancel_left _ (by decide)]
  refine ⟨512 * z, fun j hj => ?_, fun q r hq hr => ?_⟩
  · rw [e, hz j (by omega)]
    exact if_pos hj
  · rw [e, hz _ (by omega)]
    have e1 : (l.toNat + 4 * q + r - l.toNat) / 4 = q := by omega
    have e2 : (l.toNat + 4 * q + r - l.toNat) % 4 = r := by omega
    refine (if_neg (by omega)).trans ?_
    rw [e1, e2]
set_option maxRecDepth 100000 in
/-- the tape as it is: how long, too -/
theorem text_z (n z0 : Nat) (l : Int) (h0 : 0 ≤ l) (h1 : l ≤ 400) : ∃ z, tqL (gZ n z) = l ∧ ∀ j : Nat, tqB (gZ n z) j = tqB (gZ 0 z0) j := by
  refine ⟨512 * (z0 / 512) + l.toNat, ?_, fun j => ?_⟩
  · show (((512 * (z0 / 512) + l.toNat) % 512 : Nat) : Int) = l
    omega
  · show tqN ((512 * (z0 / 512) + l.toNat) / 512) j = tqN (z0 / 512) j
    rw [show (512 * (z0 / 512) + l.toNat) / 512 = z0 / 512 by omega]
set_option maxRecDepth 100000 in
theorem f472 {g : GG} {v n c : Int} {Γ : Nat → Nat} {M : MM} (h0 : 0 ≤ n + c) (h : ∀ r : Nat, r < 4 → tqB g ((n + c).toNat + r) = aNd (sHr v (24 - 8 * (r : Int))) 255) : PSt g 472 [vi (v + 0), vi (n + c)] Γ M := by
  rw [Int.add_zero]
  exact (show P472 g [vi v, vi (n + c)] Γ M from ⟨h0, h⟩)
set_option maxRecDepth 100000 in
/-- what feed, end, text tell -/
theorem fed_r {g : GG} {t : KT} {fx τ : Nat} {ρ : Nat → Int} {X : Nat} {Γ : Nat → Nat} {M : MM} {r : Option MV} (h1 : (kRes t).1 = 1) (hl : (kArgs t).length = 7) (p1 : (477, [(1, 7, 0, 0), (1, 6, 0, 0)]) ∈ kPost t) (p2 : (fx, [(2, 0, τ, 0), (1, 6, 0, 0)]) ∈ kPost t) (hR : RESok (PSt g) t ρ (fun _ => X) Γ M r) : r = some (vi (fedR (ρ 6))) ∧ PSt g fx [vr X, vi (ρ 6)] Γ M := by
  unfold RESok at hR
  rw [h1] at hR
  obtain ⟨x, rfl, -, -, h⟩ := hR
  rw [hl] at h
  have e1 : PSt g 477 [vi (x + 0), vi (ρ 6 + 0)] Γ M := h _ p1
  have e2 : PSt g fx [vr X, vi (ρ 6 + 0)] Γ M := h _ p2
  rw [Int.add_zero] at e2
  rw [Int.add_zero, Int.add_zero] at e1
  have e1 : x = fedR (ρ 6) := (show P477 g [vi x, vi (ρ 6)] Γ M from e1)
  rw [e1]
  exact ⟨rfl, e2⟩
set_option maxRecDepth 100000 in
theorem end_r {g : GG} {t : KT} {fx τ : Nat} {ρ : Nat → Int} {X : Nat} {Γ : Nat → Nat} {M : MM} {r : Option MV} (h1 : (kRes t).1 = 2) (p1 : (482, [(1, 1, 0, 0), (1, 2, 0, 0)]) ∈ (kT t).2) (p2 : (fx, [(2, 0, τ, 0), (1, 1, 0, 0)]) ∈ (kT t).2) (p3 : (483, [(1, 1, 0, 0), (1, 2, 0, 0)]) ∈ (kF t).2) (p4 : (fx, [(2, 0, τ, 0), (1, 2, 0, 0)]) ∈ (kF t).2) (hR : RESok (PSt g) t ρ (fun _ => X) Γ M r) : (r = some (vi 1) ∧ (0 ≤ ρ 1 ∧ ρ 1 ≤ ρ 2) ∧ PSt g fx [vr X, vi (ρ 1)] Γ M) ∨ (r = some (vi 0) ∧ (ρ 1 < 0 ∨ ρ 2 < ρ 1) ∧ PSt g fx [vr X, vi (ρ 2)] Γ M) := by
  unfold RESok at hR
  rw [h1] at hR
  rcases hR with ⟨rfl, -, c2⟩ | ⟨rfl, -, c2⟩
  · have e1 : PSt g 482 [vi (ρ 1 + 0), vi (ρ 2 + 0)] Γ M := c2 _ p1
    have e2 : PSt g fx [vr X, vi (ρ 1 + 0)] Γ M := c2 _ p2
    rw [Int.add_zero] at e2
    have e1 : 0 ≤ ρ 1 + 0 ∧ ρ 1 + 0 ≤ ρ 2 + 0 := e1
    exact Or.inl ⟨rfl, by omega, e2⟩
  · have e1 : PSt g 483 [vi (ρ 1 + 0), vi (ρ 2 + 0)] Γ M := c2 _ p3
    have e2 : PSt g fx [vr X, vi (ρ 2 + 0)] Γ M := c2 _ p4
    rw [Int.add_zero] at e2
    have e1 : ρ 1 + 0 < 0 ∨ ρ 2 + 0 < ρ 1 + 0 := e1
    exact Or.inr ⟨rfl, by omega, e2⟩
set_option maxRecDepth 100000 in
theorem tex_r {g : GG} {t : KT} {fx τ : Nat} {ρ : Nat → Int} {X : Nat} {Γ : Nat → Nat} {M : MM} {r : Option MV} (h1 : (kRes t).1 = 1) (p2 : (fx, [(2, 0, τ, 0), (0, 0, 0, 0)]) ∈ kPost t) (hR : RESok (PSt g) t ρ (fun _ => X) Γ M r) : PSt g fx [vr X, vi 0] Γ M := by
  unfold RESok at hR
  rw [h1] at hR
  obtain ⟨x, rfl, -, -, h⟩ := hR
  exact h _ p2
set_option maxRecDepth 100000 in
theorem f496 {n z0 z X : Nat} {l : Int} {Γ : Nat → Nat} {M : MM} (zl : tqL (gZ n z) = l) (zb : ∀ j : Nat, tqB (gZ n z) j = tqB (gZ 0 z0) j) (h : PSt (gZ 0 z0) 474 [vr X, vi l] Γ M) : PSt (gZ n z) 496 [vr X] Γ M := by
  have h2 : taP (gZ n z) X l Γ M := z474 (n := 0) (z := z0) (fun j _ => zb j) h
  show taP (gZ n z) X (tqL (gZ n z)) Γ M
  rw [zl]
  exact h2
set_option maxRecDepth 100000 in
theorem f497 {n z0 z X : Nat} {l : Int} {Γ : Nat → Nat} {M : MM} (zl : tqL (gZ n z) = l) (zb : ∀ j : Nat, tqB (gZ n z) j = tqB (gZ 0 z0) j) (h : PSt (gZ 0 z0) 479 [vr X, vi l] Γ M) : PSt (gZ n z) 497 [vr X] Γ M := by
  have h2 : PSt (gZ n z) 479 [vr X, vi l] Γ M := z479 (n := 0) (z := z0) (fun j _ => zb j) h
  rw [← zl] at h2
  exact (show P479 (gZ n z) [vr X, vi (tqL (gZ n z))] Γ M from h2)
set_option maxRecDepth 100000 in
theorem k497 {t : KT} {g : GG} {X : Nat} {Γ Γ2 : Nat → Nat} {M M2 : MM} (hB : (dY.all fun q => (kEff t).all fun e => efDis e q) = true) (hT : HTy Yt Γ M) (hT2 : HTy Yt Γ2 M2) (hF : FRM (kEff t) Γ M M2) (hG : GEX M.1 Γ Γ2) (h : PSt g 497 [vr X] Γ M) : PSt g 497 [vr X] Γ2 M2 := by
  rw [List.all_eq_true] at hB
  exact PSt_ok g 497 [vr X] Γ Γ2 M M2 (kEff t) rfl hT hT2 hF hG (fun q hq e he => List.all_eq_true.mp (hB q (by
    have hq : q ∈ [(40, 15, 16), (48, 0, 400), (40, 16, 17)] := hq
    simp only [List.mem_cons, List.not_mem_nil, or_false] at hq
    unfold dY
    rcases hq with rfl | rfl | rfl <;> decide)) e he) h
set_option maxRecDepth 100000 in
theorem u484 {g : GG} {X : Nat} {Γ : Nat → Nat} {M : MM} (h : PSt g 484 [vr X] Γ M) : TR (tqB g) (tqL g) (M.2.2.2.2 X 10) := (show P484 g [vr X] Γ M from h).2.2
set_option maxRecDepth 100000 in
theorem u485 {g : GG} {X : Nat} {Γ : Nat → Nat} {M : MM} (h : PSt g 485 [vr X] Γ M) : TR (tqB g) (tqL g) (M.2.2.2.2 X 17) := (show P485 g [vr X] Γ M from h).2.2
set_option maxRecDepth 100000 in
theorem txt_r {g : GG} {t : KT} {fx fy τ : Nat} {ρ : Nat → Int} {X : Nat} {Γ : Nat → Nat} {M : MM} {r : Option MV} (h1 : (kRes t).1 = 1) (hl : (kArgs t).length = 1) (p1 : (fx, [(2, 0, τ, 0), (0, 0, 0, 0)]) ∈ kPost t) (p2 : (fy, [(2, 0, τ, 0)]) ∈ kPost t) (p3 : (486, [(1, 1, 0, 0)]) ∈ kPost t) (hR : RESok (PSt g) t ρ (fun _ => X) Γ M r) : ∃ x, r = some (vi x) ∧ TX (tqB g) (tqL g) x ∧ PSt g fx [vr X, vi 0] Γ M ∧ PSt g fy [vr X] Γ M := by
  unfold RESok at hR
  rw [h1] at hR
  obtain ⟨x, rfl, -, -, h⟩ := hR
  rw [hl] at h
  have e1 : PSt g 486 [vi (x + 0)] Γ M := h _ p3
  have e2 : PSt g fx [vr X, vi 0] Γ M := h _ p1
  have e3 : PSt g fy [vr X] Γ M := h _ p2
  rw [Int.add_zero] at e1
  exact ⟨x, rfl, (show P486 g [vi x] Γ M from e1), e2, e3⟩
set_option maxRecDepth 100000 in
theorem fau_r {g : GG} {t : KT} {ρ : Nat → Int} {α Γ : Nat → Nat} {M : MM} {r : Option MV} (h1 : (kRes t).1 = 1) (hl : (kArgs t).length = 2) (p1 : (476, [(1, 2, 0, 0), (1, 1, 0, 0)]) ∈ kPost t) (hR : RESok (PSt g) t ρ α Γ M r) : r = some (vi (ρ 1)) := by
  unfold RESok at hR
  rw [h1] at hR
  obtain ⟨x, rfl, -, -, h⟩ := hR
  rw [hl] at h
  have e1 : PSt g 476 [vi (x + 0), vi (ρ 1 + 0)] Γ M := h _ p1
  rw [Int.add_zero, Int.add_zero] at e1
  have e1 : x = ρ 1 := (show P476 g [vi x, vi (ρ 1)] Γ M from e1)
  rw [e1]
set_option maxRecDepth 100000 in
theorem fau_b {L : Nat} {xs : Nat → Int32} {X Y a b : Nat} {Γ : Nat → Nat} {M : MM} (hI : INV L xs X Y a b Γ M) : -1 ≤ M.2.2.2.2 X 10 ∧ M.2.2.2.2 X 10 ≤ 400 := by
  obtain ⟨hT, -, -, -, -, gX, -⟩ := hI
  have h := (hT X (by rw [gX]; decide)).2.2.1
  rw [gX] at h
  exact h (10, 11, -1, 400) (by decide) 10 (Nat.le_refl _) (by decide)
set_option maxRecDepth 100000 in
theorem ffid {g : GG} {τ j X : Nat} {v : Int} {Γ : Nat → Nat} {M : MM} (hj : j < 64) (h0 : τ ≠ 0) (hX : Γ X = τ) (h : M.2.2.2.2 X j = v) : PSt g (fId τ j) [vr X, vi (v + 0), vi (v + 0)] Γ M := (fId_eq g τ j X (v + 0) (v + 0) Γ M hj).mpr ⟨hX, h0, by omega, by omega⟩
set_option maxRecDepth 100000 in
theorem ar1g {ρ : Nat → Int} {α Γ : Nat → Nat} {i : Nat} : AR ρ α Γ (1, i, 1, 0) (vi (ρ i)) := by
  show vi (ρ i) = vi (ρ i + 0)
  rw [Int.add_zero]
