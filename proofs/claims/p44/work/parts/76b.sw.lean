/-! THE CHECKER: switches, rows copied -/
section
variable {Y : Nat → TYE} {PS : PST} {dep : Nat → List EF} {E : List EF} {Γ0 : Nat → Nat} {M0 : MM} {d k : Nat} {Post : Option MV → MM → Prop} {go : GE} {n : Nat}
variable {pc len a1 a2 a3 : Nat} {i : Instr} {r : List OE} {S : SE}
def fiP (p : Nat) : Nat → List OE → Option Nat
  | _, [] => none
  | i, e :: r => cond (Nat.beq e.1 p) (some i) (fiP p (i + 1) r)
theorem fiP_ok {p : Nat} : ∀ {l : List OE} {i j : Nat}, fiP p i l = some j → i ≤ j ∧ ∃ e r, l.drop (j - i) = e :: r ∧ e.1 = p
  | [], _, _, h => by cases h
  | e :: l, i, j, h => by
    have h : cond (Nat.beq e.1 p) (some i) (fiP p (i + 1) l) = some j := h
    cases hc : Nat.beq e.1 p with
    | true =>
      rw [hc, cond_true] at h
      cases h
      exact ⟨Nat.le_refl _, e, l, by rw [Nat.sub_self]; rfl, beq_iff.mp hc⟩
    | false =>
      rw [hc, cond_false] at h
      obtain ⟨h1, e2, r2, h2, h3⟩ := fiP_ok h
      refine ⟨by omega, e2, r2, ?_, h3⟩
      rw [show j - i = (j - (i + 1)) + 1 by omega, List.drop_succ_cons]
      exact h2
noncomputable def swGo (k pc : Nat) (off : Int) (go : GE) (S : SE) : Bool := not (ltB ((pc : Int) + off) 0) && (match fiP ((pc : Int) + off).toNat 0 (ops k) with
  | some m => go m S
  | none => false)
theorem swGo_ok {e : OE} (Q : SQ Y PS E Γ0 M0 d k Post go n e r) {off : Int} (h : swGo k pc off go S = true) : ∃ tgt : Nat, (pc : Int) + off = (tgt : Int) ∧ TRU Y PS E Γ0 M0 d k Post tgt S := by
  obtain ⟨h1, h2⟩ := bb2 h
  rw [Bool.not_eq_true', ltB_f] at h1
  refine ⟨((pc : Int) + off).toNat, by omega, ?_⟩
  split at h2
  · rename_i m hm
    obtain ⟨-, e2, r2, q1, q2⟩ := fiP_ok hm
    obtain ⟨e3, r3, q3, q4⟩ := Q.1 _ _ h2
    rw [Nat.sub_zero] at q1
    rw [q1] at q3
    cases q3
    rw [← q2]
    exact q4
  · cases h2
/-- where no case is met -/
def swD (C : BC) (x : AV) (lo hi : Int) : BC := cond (ltB (ivl C x).1 lo) C (narV C x (hi + 1, (ivl C x).2))
theorem swD_ok {ρ : Nat → Int} {C : BC} {x : AV} {lo hi : Int} (hC : BO ρ C) (hx : isI x = true) (h : iv ρ x < lo ∨ hi < iv ρ x) : BO ρ (swD C x lo hi) := by
  have hb := ivl_ok hC hx
  unfold swD
  cases hc : ltB (ivl C x).1 lo with
  | true => exact hC
  | false =>
    rw [ltB_f] at hc
    exact narV_ok hC hx (by show hi + 1 ≤ iv ρ x; omega) hb.2
noncomputable def e_sw (k pc : Nat) (df lo hi : Int) (offs : Array Int) (go : GE) (S : SE) : Bool := match S.2.1 with
  | x :: t => isI x && (cond (ltB (ivl S.2.2.1 x).1 lo || ltB hi (ivl S.2.2.1 x).2) (swGo k pc df go (S.1, t, swD S.2.2.1 x lo hi, S.2.2.2)) true && (List.range (hi + 1 - lo).toNat).all fun j => (ltB (lo + Int.ofNat j) (ivl S.2.2.1 x).1 || ltB (ivl S.2.2.1 x).2 (lo + Int.ofNat j)) || (match offs.toList[j]? with
    | some off => swGo k pc off go (S.1, t, narV S.2.2.1 x (lo + Int.ofNat j, lo + Int.ofNat j), S.2.2.2)
    | none => false))
  | _ => false
theorem q_sw {df lo hi : Int} {offs : Array Int} (Q : SQ Y PS E Γ0 M0 d k Post go n (pc, .tableswitch df lo hi offs, len, a1, a2, a3) r) (h : e_sw k pc df lo hi offs go S = true) : TRU Y PS E Γ0 M0 d k Post pc S := by
  obtain ⟨ls, st, S3⟩ := S
  intro ρ α Γ M ls2 st2 r
  match st, h, r with
  | [], h, _ => cases h
  | x :: t, h, r =>
    obtain ⟨h1, h2⟩ := bb2 (show (isI x && (cond (ltB (ivl S3.1 x).1 lo || ltB hi (ivl S3.1 x).2) (swGo k pc df go (ls, t, swD S3.1 x lo hi, S3.2)) true && (List.range (hi + 1 - lo).toNat).all fun j => (ltB (lo + Int.ofNat j) (ivl S3.1 x).1 || ltB (ivl S3.1 x).2 (lo + Int.ofNat j)) || (match offs.toList[j]? with
      | some off => swGo k pc off go (ls, t, narV S3.1 x (lo + Int.ofNat j, lo + Int.ofNat j), S3.2)
      | none => false))) = true from h)
    obtain ⟨h2, h3⟩ := bb2 h2
    obtain ⟨mx, t2, rfl, h7, h8⟩ := ARs.cons r.2.2.2.1
    cases h7.int h1
    have hb : (ivl S3.1 x).1 ≤ iv ρ x ∧ iv ρ x ≤ (ivl S3.1 x).2 := ivl_ok r.2.1 h1
    by_cases ho : iv ρ x < lo ∨ hi < iv ρ x
    · have hc : (ltB (ivl S3.1 x).1 lo || ltB hi (ivl S3.1 x).2) = true := by
        rw [Bool.or_eq_true, ltB_iff, ltB_iff]
        omega
      rw [hc, cond_true] at h2
      obtain ⟨tgt, q1, q2⟩ := swGo_ok Q h2
      have w := q2 ρ α Γ M ls2 t2 ⟨r.1, swD_ok r.2.1 h1 ho, r.2.2.1, h8, r.2.2.2.2⟩
      obtain ⟨s0, u0, K, R, I⟩ := M
      exact s_swOut tgt Q.row.1 ho q1 w
    · have l1 : lo ≤ iv ρ x := by omega
      have l2 : iv ρ x ≤ hi := by omega
      rw [List.all_eq_true] at h3
      have h4 := h3 (iv ρ x - lo).toNat (List.mem_range.mpr (by omega))
      have e : lo + Int.ofNat (iv ρ x - lo).toNat = iv ρ x := by simp only [Int.ofNat_eq_natCast]; omega
      rw [e] at h4
      have n1 : ltB (iv ρ x) (ivl S3.1 x).1 = false := ltB_f.mpr (by omega)
      have n2 : ltB (ivl S3.1 x).2 (iv ρ x) = false := ltB_f.mpr (by omega)
      rw [n1, n2, Bool.false_or, Bool.false_or] at h4
      split at h4
      · rename_i off hoff
        obtain ⟨tgt, q1, q2⟩ := swGo_ok Q h4
        have w := q2 ρ α Γ M ls2 t2 ⟨r.1, narV_ok r.2.1 h1 (Int.le_refl _) (Int.le_refl _), r.2.2.1, h8, r.2.2.2.2⟩
        obtain ⟨s0, u0, K, R, I⟩ := M
        exact s_swIn off tgt Q.row.1 l1 l2 (by rw [← Array.getElem?_toList]; exact hoff) q1 w
      · cases h4
/-- a whole row over another one -/
def cpF (w v m : AV) : List PFE := cond (Nat.beq (cpN w.2.2.1 v.2.2.1) 0) [] [(cpN w.2.2.1 v.2.2.1, [w, v, m])]
def addF (l : List PFE) (x : S3T) : S3T := (x.1, x.2.1, x.2.2.1, l ++ x.2.2.2.1, x.2.2.2.2)
theorem cpF_ok {w v m : AV} {ρ : Nat → Int} {α Γ : Nat → Nat} {M : MM} (hCP : PScp PS) (hw : w.1 = 2) (hv : v.1 = 2) (hm : isI m = true) (g1 : Γ (α w.2.1) = w.2.2.1) (g3 : Γ (α v.2.1) = v.2.2.1) (hc : ∀ j : Nat, (j : Int) < iv ρ m → M.2.2.2.2 (α w.2.1) j = M.2.2.2.2 (α v.2.1) j) : PFs PS ρ α Γ M (cpF w v m) := by
  intro p hp
  unfold cpF at hp
  cases hb : Nat.beq (cpN w.2.2.1 v.2.2.1) 0 with
  | true => rw [hb] at hp; exact absurd hp List.not_mem_nil
  | false =>
    rw [hb, cond_false] at hp
    have q := hCP.1 (α w.2.1) (α v.2.1) (iv ρ m) Γ M hc
    rw [g1, g3] at q
    have q := q (fun h => by rw [h] at hb; cases hb)
    have e : [w, v, m].map (valO ρ α) = [vr (α w.2.1), vr (α v.2.1), vi (iv ρ m)] := by
      show [valO ρ α w, valO ρ α v, valO ρ α m] = _
      rw [valO_ref hw, valO_ref hv, valO_int hm]
    cases List.mem_singleton.mp hp
    show PS (cpN w.2.2.1 v.2.2.1) ([w, v, m].map (valO ρ α)) Γ M
    rw [e]
    exact q
def e_cpy (Y : Nat → TYE) (dep : Nat → List EF) (E : List EF) (go : GE) (n : Nat) (S : SE) : Bool := match S.2.1 with
  | m :: dp :: w :: sp :: v :: t => ((avEq dp (aC 0) && avEq sp (aC 0)) && ((Nat.beq m.1 0 && not (ltB m.2.2.2 0)) && ((Nat.beq v.1 2 && Nat.beq w.1 2) && ((Nat.beq (Y v.2.2.1).1 (Y w.2.2.1).1 && (Nat.beq (Y v.2.2.1).2.1 (Y w.2.2.1).2.1 && decide ((Y v.2.2.1).2.2.1 = (Y w.2.2.1).2.2.1))) && (Nat.beq (Y w.2.2.1).1 20 || Nat.beq (Y w.2.2.1).1 21))))) &&
      (((not (ltB (Int.ofNat (Y w.2.2.1).2.1) m.2.2.2) && efIn (w.2.2.1, 0, m.2.2.2.toNat) E) && (stB t && Nat.ble (wdsE t) 8)) && go (n + 1) (S.1, t, addF (cpF w v m) (aft dep (w.2.2.1, 0, m.2.2.2.toNat) [] S.2.2)))
  | _ => false
theorem q_cpy (hPS : PSok Y PS dep) (hCP : PScp PS) {idx : Nat} (Q : SQ Y PS E Γ0 M0 d k Post go n (pc, .invokestatic idx, 3, a1, a2, a3) r) (hp : pool (mcls k) idx = some (6, 0, 0)) (h : e_cpy Y dep E go n S = true) : TRU Y PS E Γ0 M0 d k Post pc S := by
  obtain ⟨ls, st, S3⟩ := S
  intro ρ α Γ M ls2 st2 r
  match st, h, r with
  | [], h, _ => cases h
  | [_], h, _ => cases h
  | [_, _], h, _ => cases h
  | [_, _, _], h, _ => cases h
  | [_, _, _, _], h, _ => cases h
  | m :: dp :: w :: sp :: v :: t, h, r =>
    obtain ⟨h1, h2⟩ := bb2 (show (((avEq dp (aC 0) && avEq sp (aC 0)) && ((Nat.beq m.1 0 && not (ltB m.2.2.2 0)) && ((Nat.beq v.1 2 && Nat.beq w.1 2) && ((Nat.beq (Y v.2.2.1).1 (Y w.2.2.1).1 && (Nat.beq (Y v.2.2.1).2.1 (Y w.2.2.1).2.1 && decide ((Y v.2.2.1).2.2.1 = (Y w.2.2.1).2.2.1))) && (Nat.beq (Y w.2.2.1).1 20 || Nat.beq (Y w.2.2.1).1 21))))) &&
      (((not (ltB (Int.ofNat (Y w.2.2.1).2.1) m.2.2.2) && efIn (w.2.2.1, 0, m.2.2.2.toNat) E) && (stB t && Nat.ble (wdsE t) 8)) && go (n + 1) (ls, t, addF (cpF w v m) (aft dep (w.2.2.1, 0, m.2.2.2.toNat) [] S3)))) = true from h)
    obtain ⟨h1, h3⟩ := bb2 h1
    obtain ⟨hdp, hsp⟩ := bb2 h1
    obtain ⟨h3, h4⟩ := bb2 h3
    obtain ⟨hm, hm0⟩ := bb2 h3
    obtain ⟨h4, h5⟩ := bb2 h4
    obtain ⟨hv, hw⟩ := bb2 h4
    obtain ⟨hτ, hkd⟩ := bb2 h5
    obtain ⟨h2, hgo⟩ := bb2 h2
    obtain ⟨h2, h6⟩ := bb2 h2
    obtain ⟨hlen, hef⟩ := bb2 h2
    obtain ⟨hst, hwd⟩ := bb2 h6
    rw [Bool.not_eq_true', ltB_f] at hm0 hlen
    obtain ⟨_, _, rfl, a5, a6⟩ := ARs.cons r.2.2.2.1
    obtain ⟨_, _, rfl, b5, b6⟩ := ARs.cons a6
    obtain ⟨_, _, rfl, c5, c6⟩ := ARs.cons b6
    obtain ⟨_, _, rfl, d5, d6⟩ := ARs.cons c6
    obtain ⟨_, t2, rfl, e5, e6⟩ := ARs.cons d6
    have isC : ∀ {x : AV}, avEq x (aC 0) = true → isI x = true ∧ iv ρ x = 0 := fun {x} q => ⟨by unfold isI; rw [beq_iff.mp (bb2 q).1]; rfl, avEq_iv (w := aC 0) q⟩
    obtain ⟨x1, x2⟩ := isC hdp
    obtain ⟨y1, y2⟩ := isC hsp
    have hmI : isI m = true := by unfold isI; rw [beq_iff.mp hm]; rfl
    cases a5.int hmI
    cases b5.int x1
    cases d5.int y1
    obtain ⟨rfl, g1, g2⟩ := c5.ref (beq_iff.mp hw)
    obtain ⟨rfl, g3, g4⟩ := e5.ref (beq_iff.mp hv)
    obtain ⟨hτ1, hτ2⟩ := bb2 hτ
    obtain ⟨hτ2, hτ3⟩ := bb2 hτ2
    have hτ1 := beq_iff.mp hτ1
    have hτ2 := beq_iff.mp hτ2
    have hτ3 := of_decide_eq_true hτ3
    have hn98 : (Y w.2.2.1).1 ≠ 98 := by
      rw [Bool.or_eq_true, beq_iff, beq_iff] at hkd
      omega
    have hKw := KD_k (r.1 (α w.2.1) (by rw [g1]; exact g2)).2.1 (by rw [g1]; exact hn98)
    have hKv := KD_k (r.1 (α v.2.1) (by rw [g3]; exact g4)).2.1 (by rw [g3, hτ1]; exact hn98)
    rw [g1] at hKw
    rw [g3, hτ1, hτ2] at hKv
    rw [x2, y2, iv_c hm]
    rw [Bool.or_eq_true, beq_iff, beq_iff] at hkd
    have hlen : ¬ ((((Y w.2.2.1).2.1 : Nat) : Int) < m.2.2.2) := hlen
    obtain ⟨s0, u0, K, R, I⟩ := M
    have r8 : REL Y PS E Γ0 M0 ρ α Γ (s0, u0, K, R, I) (ls, t, S3) ls2 t2 := ⟨r.1, r.2.1, r.2.2.1, e6, r.2.2.2.2⟩
    have hF : FRM [(w.2.2.1, 0, m.2.2.2.toNat)] Γ (s0, u0, K, R, I) (s0, u0, K, R, cpI I (α v.2.1) (α w.2.1) (0 : Int).toNat (0 : Int).toNat m.2.2.2.toNat) := by
      refine ⟨Nat.le_refl _, fun b _ => ⟨rfl, fun j hj => ⟨?_, rfl⟩⟩⟩
      show (if b = α w.2.1 ∧ 0 ≤ j ∧ j < 0 + m.2.2.2.toNat then _ else I b j) = I b j
      by_cases q : b = α w.2.1 ∧ 0 ≤ j ∧ j < 0 + m.2.2.2.toNat
      · exact absurd (hj (w.2.2.1, 0, m.2.2.2.toNat) List.mem_cons_self (by rw [q.1]; exact g1) (Nat.zero_le _) (by have := q.2.2; show j < m.2.2.2.toNat; omega)) (by rw [q.1, g1]; exact g2)
      · rw [if_neg q]
    have hT : HTy Y Γ (s0, u0, K, R, cpI I (α v.2.1) (α w.2.1) (0 : Int).toNat (0 : Int).toNat m.2.2.2.toNat) := by
      intro b hb
      obtain ⟨t1, t2, t3, t4⟩ := r.1 b hb
      refine ⟨t1, t2, fun r0 hr j q1 q2 => ?_, t4⟩
      show r0.2.2.1 ≤ (if b = α w.2.1 ∧ 0 ≤ j ∧ j < 0 + m.2.2.2.toNat then I (α v.2.1) (0 + (j - 0)) else I b j) ∧ (if b = α w.2.1 ∧ 0 ≤ j ∧ j < 0 + m.2.2.2.toNat then I (α v.2.1) (0 + (j - 0)) else I b j) ≤ r0.2.2.2
      by_cases q : b = α w.2.1 ∧ 0 ≤ j ∧ j < 0 + m.2.2.2.toNat
      · rw [if_pos q, Nat.zero_add, Nat.sub_zero]
        rw [q.1, g1] at hr
        exact (r.1 (α v.2.1) (by rw [g3]; exact g4)).2.2.1 r0 (by rw [g3, hτ3]; exact hr) j q1 q2
      · rw [if_neg q]
        exact t3 r0 hr j q1 q2
    have q := REL.frm hPS (da := 0) (ds := 0) r8 hT hF (fun _ _ => rfl) (by unfold efsIn; rw [List.all_eq_true]; intro e he; cases List.mem_singleton.mp he; exact hef) (Nat.le_refl _) (Nat.le_refl _)
    refine s_copy Q.row.1 hp (by rw [wds_ok hst e6]; exact ble_iff.mp hwd) hKv hKw hkd (by omega) (by omega) (by omega) (by omega) (by omega) rfl (Q.next hgo ρ α Γ _ ls2 t2 ?_)
    refine ⟨q.1, q.2.1, q.2.2.1, q.2.2.2.1, q.2.2.2.2.1, fun p hp => ?_, q.2.2.2.2.2.2⟩
    rcases List.mem_append.mp hp with hp | hp
    · refine cpF_ok hCP (beq_iff.mp hw) (beq_iff.mp hv) hmI g1 g3 (fun j hj => ?_) p hp
      rw [iv_c hm] at hj
      show (if α w.2.1 = α w.2.1 ∧ 0 ≤ j ∧ j < 0 + m.2.2.2.toNat then I (α v.2.1) (0 + (j - 0)) else I (α w.2.1) j) = (if α v.2.1 = α w.2.1 ∧ 0 ≤ j ∧ j < 0 + m.2.2.2.toNat then I (α v.2.1) (0 + (j - 0)) else I (α v.2.1) j)
      rw [if_pos ⟨rfl, Nat.zero_le _, by omega⟩, Nat.zero_add, Nat.sub_zero]
      split <;> rfl
    · exact q.2.2.2.2.2.1 p hp
end
