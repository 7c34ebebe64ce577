/-! loops in one step: they tell the truth -/
theorem le11_ok {ρ : Nat → Int} {v : VV} {m : MV} (h : le11 v = true) (r : VR ρ v m) : ∃ a : Nat, m = vi (a : Int) ∧ a ≤ 11 := by
  unfold le11 at h
  split at h
  · rename_i a
    exact ⟨a, r, blm h⟩
  · cases h
theorem amOK_ok {ρ : Nat → Int} {kc : Nat} {dv : VV} {o : Option VV} {x : Int} {q : Option Nat} (h : amOK o dv = true) (r : CE ρ kc dv o x q) (hk : kc ≠ 22) : ∃ a : Nat, x = (a : Int) ∧ a ≤ 11 := by
  cases o with
  | none =>
    obtain ⟨a, h1, h2⟩ := le11_ok h (r.1 hk)
    cases h1
    exact ⟨a, rfl, h2⟩
  | some v =>
    rcases r with r | ⟨-, r⟩
    · obtain ⟨a, h1, h2⟩ := le11_ok h r
      cases h1
      exact ⟨a, rfl, h2⟩
    · obtain ⟨a, h1, h2⟩ := le11_ok h r
      cases h1
section
variable {go : GO} {n pc len a1 a2 a3 : Nat} {r : List OE} {D : Nat} {ls st : List VV} {fs : List FR} {T : HT} {s u : Nat} {C : CT} {i : Instr}
theorem mx_1 : ∃ e r, (ops 186).drop 44 = e :: r ∧ e.1 = 82 := ⟨_, _, rfl, rfl⟩
theorem mj_1 : decode (mcode 186) 47 = .ok (.istore_n 1, 1) := by decide +kernel
theorem om_1 (S : STP go 186 n (47, i, len, a1, a2, a3) r) (h : m_keep 6 1 7 44 go (47, i, len, a1, a2, a3) D 186 (ops 186) r ls st fs T s u C = true) : SemAt D 186 47 ls st fs T s u C := by
  intro ρ ls2 st2 fs2 M hC h1 h2 h3 h4
  obtain ⟨s0, u0, K, R, I⟩ := M
  unfold m_keep at h
  split at h
  · rename_i m w0
    obtain ⟨b0, t0, rfl, g0, g1⟩ := h1.cons
    obtain ⟨b1, t1, rfl, g2, g3⟩ := g1.cons
    cases g3.nil
    obtain ⟨c0, t2, rfl, g4, g5⟩ := h2.cons
    cases g5.nil
    cases (show b0 = vr m from g0)
    cases (show c0 = vi 0 from g4)
    split at h
    · rename_i kc kn dv tr ho
      obtain ⟨w1, w2, w3⟩ := h4.2.2 m _ (bget_lt 7 _ _ _ ho) ho
      cases hc : (Nat.beq kc 12 && Nat.beq kn 0) with
      | false => rw [hc] at h; cases h
      | true =>
        rw [hc, cond_true] at h
        rw [Bool.and_eq_true, beq_iff, beq_iff] at hc
        obtain ⟨rfl, rfl⟩ := hc
        split at h
        · rename_i da sa hda hsa
          split at h
          · rename_i dc dn z1 z2 sc sn z3 z4 hod hos
            obtain ⟨x1, x2, x3⟩ := h4.2.2 da _ (bget_lt 7 _ _ _ hod) hod
            obtain ⟨y1, y2, y3⟩ := h4.2.2 sa _ (bget_lt 7 _ _ _ hos) hos
            cases hd : ((Nat.beq dc 20 && Nat.beq dn 27768) && ((Nat.beq sc 20 && Nat.beq sn 2314) && amOK (bget 12 tr 7) dv)) with
            | false => rw [hd] at h; cases h
            | true =>
              rw [hd, cond_true, bsetK_eq] at h
              rw [Bool.and_eq_true, Bool.and_eq_true, Bool.and_eq_true, Bool.and_eq_true, beq_iff, beq_iff, beq_iff, beq_iff] at hd
              obtain ⟨⟨rfl, rfl⟩, ⟨rfl, rfl⟩, ham⟩ := hd
              have cd := w3 6 (by decide) (Or.inl (show 12 < 20 by decide))
              rw [show bget 12 (12, 0, dv, tr).2.2.2 6 = _ from hda] at cd
              have cs := w3 1 (by decide) (Or.inl (show 12 < 20 by decide))
              rw [show bget 12 (12, 0, dv, tr).2.2.2 1 = _ from hsa] at cs
              have ca : CE ρ 12 dv (bget 12 tr 7) (I m 7) (R m 7) := w3 7 (by decide) (Or.inl (show 12 < 20 by decide))
              have hRd : R m 6 = some da := Sum.inr.inj (Sum.inr.inj (show vq (R m 6) = vr da from cd.plc rfl))
              have hRs : R m 1 = some sa := Sum.inr.inj (Sum.inr.inj (show vq (R m 1) = vr sa from cs.plc rfl))
              obtain ⟨a, ha1, ha2⟩ := amOK_ok ham ca (by decide)
              refine s_istore_n (ls2 := [vr m, vi 0]) mj_1 (by show 1 < 2; decide) (by
                unfold st1 kl
                rfl) ?_
              refine mc_1 (a := a) w2 hRd hRs x2 y2 ha1 ha2 (fun I2 hI2 => ?_)
              obtain ⟨e2, r2, q1, q2⟩ := mx_1
              rw [dropN_eq] at h
              obtain ⟨e3, r3, q3, q4⟩ := S.1 _ _ _ _ _ _ _ _ _ _ S.2.1 h
              rw [q1] at q3
              cases q3
              rw [q2] at q4
              refine q4 ρ [vr m, vi 2314] [] fs2 _ hC ⟨rfl, rfl, trivial⟩ trivial h3 ?_
              refine h4.upd (bget_lt 7 _ _ _ hod) hod rfl rfl rfl (fun b j hb => ⟨hI2 b j hb, rfl⟩) (fun j hj hj2 => ?_)
              rw [bget_bN]
              exact ⟨fun _ => VR.any ρ _, fun q => by omega⟩
          · cases h
        · cases h
    · cases h
  · cases h
theorem mx_2 : ∃ e r, (ops 245).drop 18 = e :: r ∧ e.1 = 32 := ⟨_, _, rfl, rfl⟩
theorem mj_2 : decode (mcode 245) 6 = .ok (.istore_n 1, 1) := by decide +kernel
theorem om_2 (S : STP go 245 n (6, i, len, a1, a2, a3) r) (h : m_copy 2 1 1 18 go (6, i, len, a1, a2, a3) D 245 (ops 245) r ls st fs T s u C = true) : SemAt D 245 6 ls st fs T s u C := by
  intro ρ ls2 st2 fs2 M hC h1 h2 h3 h4
  obtain ⟨s0, u0, K, R, I⟩ := M
  unfold m_copy at h
  split at h
  · rename_i m hm
    obtain ⟨c0, t2, rfl, g4, g5⟩ := h2.cons
    cases g5.nil
    cases (show c0 = vi 0 from g4)
    split at h
    · rename_i kc kn dv tr ho
      obtain ⟨w1, w2, w3⟩ := h4.2.2 m _ (bget_lt 7 _ _ _ ho) ho
      cases hc : (Nat.beq kc 12 && Nat.beq kn 0) with
      | false => rw [hc] at h; cases h
      | true =>
        rw [hc, cond_true] at h
        rw [Bool.and_eq_true, beq_iff, beq_iff] at hc
        obtain ⟨rfl, rfl⟩ := hc
        split at h
        · rename_i da sa hda hsa
          split at h
          · rename_i dc dn z1 z2 sc sn sv sr hod hos
            obtain ⟨x1, x2, x3⟩ := h4.2.2 da _ (bget_lt 7 _ _ _ hod) hod
            obtain ⟨y1, y2, y3⟩ := h4.2.2 sa _ (bget_lt 7 _ _ _ hos) hos
            cases hd : ((Nat.beq dc 20 && Nat.beq dn 2314) && ((Nat.beq sc 20 && Nat.beq sn 2314) && not (Nat.beq da sa))) with
            | false => rw [hd] at h; cases h
            | true =>
              rw [hd, cond_true] at h
              rw [Bool.and_eq_true, Bool.and_eq_true, Bool.and_eq_true, Bool.and_eq_true, beq_iff, beq_iff, beq_iff, beq_iff, Bool.not_eq_true'] at hd
              obtain ⟨⟨rfl, rfl⟩, ⟨rfl, rfl⟩, hne⟩ := hd
              have hne2 : da ≠ sa := fun q => by rw [beq_iff.mpr q] at hne; cases hne
              have cd := w3 2 (by decide) (Or.inl (show 12 < 20 by decide))
              rw [show bget 12 (12, 0, dv, tr).2.2.2 2 = _ from hda] at cd
              have cs := w3 1 (by decide) (Or.inl (show 12 < 20 by decide))
              rw [show bget 12 (12, 0, dv, tr).2.2.2 1 = _ from hsa] at cs
              have hRd : R m 2 = some da := Sum.inr.inj (Sum.inr.inj (show vq (R m 2) = vr da from cd.plc rfl))
              have hRs : R m 1 = some sa := Sum.inr.inj (Sum.inr.inj (show vq (R m 1) = vr sa from cs.plc rfl))
              obtain ⟨l1, q1, q2⟩ := klK_ok h h1
              obtain ⟨q3, q4⟩ := lsetK_eq _ _ _ _ q2
              rw [bsetK_eq, dropN_eq] at q4
              have hll : (kl ls2 1).length = ls2.length := by
                unfold kl
                split
                · exact List.length_set
                · rfl
              have hb0 : (kl ls2 1)[0]? = some (vr m) := by
                have e0 : ls2[0]? = some (vr m) := by
                  rcases h1.get 0 with ⟨b0, e1, e2⟩ | ⟨-, e2⟩
                  · rw [hm] at e2
                    rw [e1]
                    exact congrArg some e2
                  · rw [hm] at e2
                    cases e2
                unfold kl
                split
                · rename_i x hx
                  by_cases hz : 1 - 1 = 0
                  · rw [hz, e0] at hx
                    cases hx
                  · rw [List.getElem?_set_ne hz]
                    exact e0
                · exact e0
              have hbl : ∀ x, (kl ls2 1)[1 - 1]? ≠ some (vl x) := by
                intro x hx
                unfold kl at hx
                split at hx
                · rename_i x2 hx2
                  rw [List.getElem?_set_self (by
                    rcases Nat.lt_or_ge (1 - 1) ls2.length with q | q
                    · exact q
                    · rw [List.getElem?_eq_none q] at hx2; cases hx2)] at hx
                  cases hx
                · rename_i hnx
                  exact hnx x hx
              refine s_istore_n (ls2 := (kl ls2 1).set 1 (vi 0)) mj_2 (by show 1 < ls2.length; rw [← hll, ← q1.len]; exact q3) rfl ?_
              refine mc_2 w2 hRd hRs x2 y2 hne2 hb0 (by rw [← q1.len]; exact q3) hbl (fun I2 hI2 => ?_)
              obtain ⟨e2, r2, p1, p2⟩ := mx_2
              obtain ⟨e3, r3, p3, p4⟩ := S.1 _ _ _ _ _ _ _ _ _ _ S.2.1 q4
              rw [p1] at p3
              cases p3
              rw [p2] at p4
              refine p4 ρ _ [] fs2 _ hC (q1.set 1 rfl) trivial h3 ?_
              refine h4.upd (bget_lt 7 _ _ _ hod) hod rfl rfl rfl (fun b j hb => ⟨?_, rfl⟩) (fun j hj hj2 => ?_)
              · show I2 b j = I b j
                rw [hI2 b j, if_neg (fun q => hb q.1)]
              · have hj3 : j < 2314 := by
                  rcases hj2 with q | q
                  · exact absurd q (by decide)
                  · exact q
                have hce : CE ρ 20 sv (bget 12 sr j) (I sa j) (R sa j) := y3 j hj (Or.inr hj3)
                show CE ρ 20 sv (bget 12 sr j) (I2 da j) (R da j)
                rw [hI2 da j, if_pos ⟨rfl, hj3⟩]
                cases hq : bget 12 sr j with
                | none =>
                  rw [hq] at hce
                  exact ⟨hce.1, fun q => by omega⟩
                | some w =>
                  rw [hq] at hce
                  rcases hce with hce | ⟨hce, -⟩
                  · exact Or.inl hce
                  · exfalso; omega
          · cases h
        · cases h
    · cases h
  · cases h
theorem mx_3 : ∃ e r, (ops 279).drop 30 = e :: r ∧ e.1 = 52 := ⟨_, _, rfl, rfl⟩
theorem mj_3 : decode (mcode 279) 26 = .ok (.istore_n 3, 1) := by decide +kernel
theorem om_3 (S : STP go 279 n (26, i, len, a1, a2, a3) r) (h : m_copy 2 1 3 30 go (26, i, len, a1, a2, a3) D 279 (ops 279) r ls st fs T s u C = true) : SemAt D 279 26 ls st fs T s u C := by
  intro ρ ls2 st2 fs2 M hC h1 h2 h3 h4
  obtain ⟨s0, u0, K, R, I⟩ := M
  unfold m_copy at h
  split at h
  · rename_i m hm
    obtain ⟨c0, t2, rfl, g4, g5⟩ := h2.cons
    cases g5.nil
    cases (show c0 = vi 0 from g4)
    split at h
    · rename_i kc kn dv tr ho
      obtain ⟨w1, w2, w3⟩ := h4.2.2 m _ (bget_lt 7 _ _ _ ho) ho
      cases hc : (Nat.beq kc 12 && Nat.beq kn 0) with
      | false => rw [hc] at h; cases h
      | true =>
        rw [hc, cond_true] at h
        rw [Bool.and_eq_true, beq_iff, beq_iff] at hc
        obtain ⟨rfl, rfl⟩ := hc
        split at h
        · rename_i da sa hda hsa
          split at h
          · rename_i dc dn z1 z2 sc sn sv sr hod hos
            obtain ⟨x1, x2, x3⟩ := h4.2.2 da _ (bget_lt 7 _ _ _ hod) hod
            obtain ⟨y1, y2, y3⟩ := h4.2.2 sa _ (bget_lt 7 _ _ _ hos) hos
            cases hd : ((Nat.beq dc 20 && Nat.beq dn 2314) && ((Nat.beq sc 20 && Nat.beq sn 2314) && not (Nat.beq da sa))) with
            | false => rw [hd] at h; cases h
            | true =>
              rw [hd, cond_true] at h
              rw [Bool.and_eq_true, Bool.and_eq_true, Bool.and_eq_true, Bool.and_eq_true, beq_iff, beq_iff, beq_iff, beq_iff, Bool.not_eq_true'] at hd
              obtain ⟨⟨rfl, rfl⟩, ⟨rfl, rfl⟩, hne⟩ := hd
              have hne2 : da ≠ sa := fun q => by rw [beq_iff.mpr q] at hne; cases hne
              have cd := w3 2 (by decide) (Or.inl (show 12 < 20 by decide))
              rw [show bget 12 (12, 0, dv, tr).2.2.2 2 = _ from hda] at cd
              have cs := w3 1 (by decide) (Or.inl (show 12 < 20 by decide))
              rw [show bget 12 (12, 0, dv, tr).2.2.2 1 = _ from hsa] at cs
              have hRd : R m 2 = some da := Sum.inr.inj (Sum.inr.inj (show vq (R m 2) = vr da from cd.plc rfl))
              have hRs : R m 1 = some sa := Sum.inr.inj (Sum.inr.inj (show vq (R m 1) = vr sa from cs.plc rfl))
              obtain ⟨l1, q1, q2⟩ := klK_ok h h1
              obtain ⟨q3, q4⟩ := lsetK_eq _ _ _ _ q2
              rw [bsetK_eq, dropN_eq] at q4
              have hll : (kl ls2 3).length = ls2.length := by
                unfold kl
                split
                · exact List.length_set
                · rfl
              have hb0 : (kl ls2 3)[0]? = some (vr m) := by
                have e0 : ls2[0]? = some (vr m) := by
                  rcases h1.get 0 with ⟨b0, e1, e2⟩ | ⟨-, e2⟩
                  · rw [hm] at e2
                    rw [e1]
                    exact congrArg some e2
                  · rw [hm] at e2
                    cases e2
                unfold kl
                split
                · rename_i x hx
                  by_cases hz : 3 - 1 = 0
                  · rw [hz, e0] at hx
                    cases hx
                  · rw [List.getElem?_set_ne hz]
                    exact e0
                · exact e0
              have hbl : ∀ x, (kl ls2 3)[3 - 1]? ≠ some (vl x) := by
                intro x hx
                unfold kl at hx
                split at hx
                · rename_i x2 hx2
                  rw [List.getElem?_set_self (by
                    rcases Nat.lt_or_ge (3 - 1) ls2.length with q | q
                    · exact q
                    · rw [List.getElem?_eq_none q] at hx2; cases hx2)] at hx
                  cases hx
                · rename_i hnx
                  exact hnx x hx
              refine s_istore_n (ls2 := (kl ls2 3).set 3 (vi 0)) mj_3 (by show 3 < ls2.length; rw [← hll, ← q1.len]; exact q3) rfl ?_
              refine mc_3 w2 hRd hRs x2 y2 hne2 hb0 (by rw [← q1.len]; exact q3) hbl (fun I2 hI2 => ?_)
              obtain ⟨e2, r2, p1, p2⟩ := mx_3
              obtain ⟨e3, r3, p3, p4⟩ := S.1 _ _ _ _ _ _ _ _ _ _ S.2.1 q4
              rw [p1] at p3
              cases p3
              rw [p2] at p4
              refine p4 ρ _ [] fs2 _ hC (q1.set 3 rfl) trivial h3 ?_
              refine h4.upd (bget_lt 7 _ _ _ hod) hod rfl rfl rfl (fun b j hb => ⟨?_, rfl⟩) (fun j hj hj2 => ?_)
              · show I2 b j = I b j
                rw [hI2 b j, if_neg (fun q => hb q.1)]
              · have hj3 : j < 2314 := by
                  rcases hj2 with q | q
                  · exact absurd q (by decide)
                  · exact q
                have hce : CE ρ 20 sv (bget 12 sr j) (I sa j) (R sa j) := y3 j hj (Or.inr hj3)
                show CE ρ 20 sv (bget 12 sr j) (I2 da j) (R da j)
                rw [hI2 da j, if_pos ⟨rfl, hj3⟩]
                cases hq : bget 12 sr j with
                | none =>
                  rw [hq] at hce
                  exact ⟨hce.1, fun q => by omega⟩
                | some w =>
                  rw [hq] at hce
                  rcases hce with hce | ⟨hce, -⟩
                  · exact Or.inl hce
                  · exfalso; omega
          · cases h
        · cases h
    · cases h
  · cases h
theorem mx_4 : ∃ e r, (ops 279).drop 78 = e :: r ∧ e.1 = 138 := ⟨_, _, rfl, rfl⟩
theorem mj_4 : decode (mcode 279) 108 = .ok (.istore 4, 2) := by decide +kernel
theorem om_4 (S : STP go 279 n (108, i, len, a1, a2, a3) r) (h : m_copy 1 2 4 78 go (108, i, len, a1, a2, a3) D 279 (ops 279) r ls st fs T s u C = true) : SemAt D 279 108 ls st fs T s u C := by
  intro ρ ls2 st2 fs2 M hC h1 h2 h3 h4
  obtain ⟨s0, u0, K, R, I⟩ := M
  unfold m_copy at h
  split at h
  · rename_i m hm
    obtain ⟨c0, t2, rfl, g4, g5⟩ := h2.cons
    cases g5.nil
    cases (show c0 = vi 0 from g4)
    split at h
    · rename_i kc kn dv tr ho
      obtain ⟨w1, w2, w3⟩ := h4.2.2 m _ (bget_lt 7 _ _ _ ho) ho
      cases hc : (Nat.beq kc 12 && Nat.beq kn 0) with
      | false => rw [hc] at h; cases h
      | true =>
        rw [hc, cond_true] at h
        rw [Bool.and_eq_true, beq_iff, beq_iff] at hc
        obtain ⟨rfl, rfl⟩ := hc
        split at h
        · rename_i da sa hda hsa
          split at h
          · rename_i dc dn z1 z2 sc sn sv sr hod hos
            obtain ⟨x1, x2, x3⟩ := h4.2.2 da _ (bget_lt 7 _ _ _ hod) hod
            obtain ⟨y1, y2, y3⟩ := h4.2.2 sa _ (bget_lt 7 _ _ _ hos) hos
            cases hd : ((Nat.beq dc 20 && Nat.beq dn 2314) && ((Nat.beq sc 20 && Nat.beq sn 2314) && not (Nat.beq da sa))) with
            | false => rw [hd] at h; cases h
            | true =>
              rw [hd, cond_true] at h
              rw [Bool.and_eq_true, Bool.and_eq_true, Bool.and_eq_true, Bool.and_eq_true, beq_iff, beq_iff, beq_iff, beq_iff, Bool.not_eq_true'] at hd
              obtain ⟨⟨rfl, rfl⟩, ⟨rfl, rfl⟩, hne⟩ := hd
              have hne2 : da ≠ sa := fun q => by rw [beq_iff.mpr q] at hne; cases hne
              have cd := w3 1 (by decide) (Or.inl (show 12 < 20 by decide))
              rw [show bget 12 (12, 0, dv, tr).2.2.2 1 = _ from hda] at cd
              have cs := w3 2 (by decide) (Or.inl (show 12 < 20 by decide))
              rw [show bget 12 (12, 0, dv, tr).2.2.2 2 = _ from hsa] at cs
              have hRd : R m 1 = some da := Sum.inr.inj (Sum.inr.inj (show vq (R m 1) = vr da from cd.plc rfl))
              have hRs : R m 2 = some sa := Sum.inr.inj (Sum.inr.inj (show vq (R m 2) = vr sa from cs.plc rfl))
              obtain ⟨l1, q1, q2⟩ := klK_ok h h1
              obtain ⟨q3, q4⟩ := lsetK_eq _ _ _ _ q2
              rw [bsetK_eq, dropN_eq] at q4
              have hll : (kl ls2 4).length = ls2.length := by
                unfold kl
                split
                · exact List.length_set
                · rfl
              have hb0 : (kl ls2 4)[0]? = some (vr m) := by
                have e0 : ls2[0]? = some (vr m) := by
                  rcases h1.get 0 with ⟨b0, e1, e2⟩ | ⟨-, e2⟩
                  · rw [hm] at e2
                    rw [e1]
                    exact congrArg some e2
                  · rw [hm] at e2
                    cases e2
                unfold kl
                split
                · rename_i x hx
                  by_cases hz : 4 - 1 = 0
                  · rw [hz, e0] at hx
                    cases hx
                  · rw [List.getElem?_set_ne hz]
                    exact e0
                · exact e0
              have hbl : ∀ x, (kl ls2 4)[4 - 1]? ≠ some (vl x) := by
                intro x hx
                unfold kl at hx
                split at hx
                · rename_i x2 hx2
                  rw [List.getElem?_set_self (by
                    rcases Nat.lt_or_ge (4 - 1) ls2.length with q | q
                    · exact q
                    · rw [List.getElem?_eq_none q] at hx2; cases hx2)] at hx
                  cases hx
                · rename_i hnx
                  exact hnx x hx
              refine s_istore (ls2 := (kl ls2 4).set 4 (vi 0)) mj_4 (by show 4 < ls2.length; rw [← hll, ← q1.len]; exact q3) rfl ?_
              refine mc_4 w2 hRd hRs x2 y2 hne2 hb0 (by rw [← q1.len]; exact q3) hbl (fun I2 hI2 => ?_)
              obtain ⟨e2, r2, p1, p2⟩ := mx_4
              obtain ⟨e3, r3, p3, p4⟩ := S.1 _ _ _ _ _ _ _ _ _ _ S.2.1 q4
              rw [p1] at p3
              cases p3
              rw [p2] at p4
              refine p4 ρ _ [] fs2 _ hC (q1.set 4 rfl) trivial h3 ?_
              refine h4.upd (bget_lt 7 _ _ _ hod) hod rfl rfl rfl (fun b j hb => ⟨?_, rfl⟩) (fun j hj hj2 => ?_)
              · show I2 b j = I b j
                rw [hI2 b j, if_neg (fun q => hb q.1)]
              · have hj3 : j < 2314 := by
                  rcases hj2 with q | q
                  · exact absurd q (by decide)
                  · exact q
                have hce : CE ρ 20 sv (bget 12 sr j) (I sa j) (R sa j) := y3 j hj (Or.inr hj3)
                show CE ρ 20 sv (bget 12 sr j) (I2 da j) (R da j)
                rw [hI2 da j, if_pos ⟨rfl, hj3⟩]
                cases hq : bget 12 sr j with
                | none =>
                  rw [hq] at hce
                  exact ⟨hce.1, fun q => by omega⟩
                | some w =>
                  rw [hq] at hce
                  rcases hce with hce | ⟨hce, -⟩
                  · exact Or.inl hce
                  · exfalso; omega
          · cases h
        · cases h
    · cases h
  · cases h
theorem mx_5 : ∃ e r, (ops 280).drop 24 = e :: r ∧ e.1 = 42 := ⟨_, _, rfl, rfl⟩
theorem mj_5 : decode (mcode 280) 16 = .ok (.istore_n 2, 1) := by decide +kernel
theorem om_5 (S : STP go 280 n (16, i, len, a1, a2, a3) r) (h : m_copy 2 1 2 24 go (16, i, len, a1, a2, a3) D 280 (ops 280) r ls st fs T s u C = true) : SemAt D 280 16 ls st fs T s u C := by
  intro ρ ls2 st2 fs2 M hC h1 h2 h3 h4
  obtain ⟨s0, u0, K, R, I⟩ := M
  unfold m_copy at h
  split at h
  · rename_i m hm
    obtain ⟨c0, t2, rfl, g4, g5⟩ := h2.cons
    cases g5.nil
    cases (show c0 = vi 0 from g4)
    split at h
    · rename_i kc kn dv tr ho
      obtain ⟨w1, w2, w3⟩ := h4.2.2 m _ (bget_lt 7 _ _ _ ho) ho
      cases hc : (Nat.beq kc 12 && Nat.beq kn 0) with
      | false => rw [hc] at h; cases h
      | true =>
        rw [hc, cond_true] at h
        rw [Bool.and_eq_true, beq_iff, beq_iff] at hc
        obtain ⟨rfl, rfl⟩ := hc
        split at h
        · rename_i da sa hda hsa
          split at h
          · rename_i dc dn z1 z2 sc sn sv sr hod hos
            obtain ⟨x1, x2, x3⟩ := h4.2.2 da _ (bget_lt 7 _ _ _ hod) hod
            obtain ⟨y1, y2, y3⟩ := h4.2.2 sa _ (bget_lt 7 _ _ _ hos) hos
            cases hd : ((Nat.beq dc 20 && Nat.beq dn 2314) && ((Nat.beq sc 20 && Nat.beq sn 2314) && not (Nat.beq da sa))) with
            | false => rw [hd] at h; cases h
            | true =>
              rw [hd, cond_true] at h
              rw [Bool.and_eq_true, Bool.and_eq_true, Bool.and_eq_true, Bool.and_eq_true, beq_iff, beq_iff, beq_iff, beq_iff, Bool.not_eq_true'] at hd
              obtain ⟨⟨rfl, rfl⟩, ⟨rfl, rfl⟩, hne⟩ := hd
              have hne2 : da ≠ sa := fun q => by rw [beq_iff.mpr q] at hne; cases hne
              have cd := w3 2 (by decide) (Or.inl (show 12 < 20 by decide))
              rw [show bget 12 (12, 0, dv, tr).2.2.2 2 = _ from hda] at cd
              have cs := w3 1 (by decide) (Or.inl (show 12 < 20 by decide))
              rw [show bget 12 (12, 0, dv, tr).2.2.2 1 = _ from hsa] at cs
              have hRd : R m 2 = some da := Sum.inr.inj (Sum.inr.inj (show vq (R m 2) = vr da from cd.plc rfl))
              have hRs : R m 1 = some sa := Sum.inr.inj (Sum.inr.inj (show vq (R m 1) = vr sa from cs.plc rfl))
              obtain ⟨l1, q1, q2⟩ := klK_ok h h1
              obtain ⟨q3, q4⟩ := lsetK_eq _ _ _ _ q2
              rw [bsetK_eq, dropN_eq] at q4
              have hll : (kl ls2 2).length = ls2.length := by
                unfold kl
                split
                · exact List.length_set
                · rfl
              have hb0 : (kl ls2 2)[0]? = some (vr m) := by
                have e0 : ls2[0]? = some (vr m) := by
                  rcases h1.get 0 with ⟨b0, e1, e2⟩ | ⟨-, e2⟩
                  · rw [hm] at e2
                    rw [e1]
                    exact congrArg some e2
                  · rw [hm] at e2
                    cases e2
                unfold kl
                split
                · rename_i x hx
                  by_cases hz : 2 - 1 = 0
                  · rw [hz, e0] at hx
                    cases hx
                  · rw [List.getElem?_set_ne hz]
                    exact e0
                · exact e0
              have hbl : ∀ x, (kl ls2 2)[2 - 1]? ≠ some (vl x) := by
                intro x hx
                unfold kl at hx
                split at hx
                · rename_i x2 hx2
                  rw [List.getElem?_set_self (by
                    rcases Nat.lt_or_ge (2 - 1) ls2.length with q | q
                    · exact q
                    · rw [List.getElem?_eq_none q] at hx2; cases hx2)] at hx
                  cases hx
                · rename_i hnx
                  exact hnx x hx
              refine s_istore_n (ls2 := (kl ls2 2).set 2 (vi 0)) mj_5 (by show 2 < ls2.length; rw [← hll, ← q1.len]; exact q3) rfl ?_
              refine mc_5 w2 hRd hRs x2 y2 hne2 hb0 (by rw [← q1.len]; exact q3) hbl (fun I2 hI2 => ?_)
              obtain ⟨e2, r2, p1, p2⟩ := mx_5
              obtain ⟨e3, r3, p3, p4⟩ := S.1 _ _ _ _ _ _ _ _ _ _ S.2.1 q4
              rw [p1] at p3
              cases p3
              rw [p2] at p4
              refine p4 ρ _ [] fs2 _ hC (q1.set 2 rfl) trivial h3 ?_
              refine h4.upd (bget_lt 7 _ _ _ hod) hod rfl rfl rfl (fun b j hb => ⟨?_, rfl⟩) (fun j hj hj2 => ?_)
              · show I2 b j = I b j
                rw [hI2 b j, if_neg (fun q => hb q.1)]
              · have hj3 : j < 2314 := by
                  rcases hj2 with q | q
                  · exact absurd q (by decide)
                  · exact q
                have hce : CE ρ 20 sv (bget 12 sr j) (I sa j) (R sa j) := y3 j hj (Or.inr hj3)
                show CE ρ 20 sv (bget 12 sr j) (I2 da j) (R da j)
                rw [hI2 da j, if_pos ⟨rfl, hj3⟩]
                cases hq : bget 12 sr j with
                | none =>
                  rw [hq] at hce
                  exact ⟨hce.1, fun q => by omega⟩
                | some w =>
                  rw [hq] at hce
                  rcases hce with hce | ⟨hce, -⟩
                  · exact Or.inl hce
                  · exfalso; omega
          · cases h
        · cases h
    · cases h
  · cases h
theorem mx_6 : ∃ e r, (ops 280).drop 53 = e :: r ∧ e.1 = 91 := ⟨_, _, rfl, rfl⟩
theorem mj_6 : decode (mcode 280) 65 = .ok (.istore_n 3, 1) := by decide +kernel
theorem om_6 (S : STP go 280 n (65, i, len, a1, a2, a3) r) (h : m_copy 1 2 3 53 go (65, i, len, a1, a2, a3) D 280 (ops 280) r ls st fs T s u C = true) : SemAt D 280 65 ls st fs T s u C := by
  intro ρ ls2 st2 fs2 M hC h1 h2 h3 h4
  obtain ⟨s0, u0, K, R, I⟩ := M
  unfold m_copy at h
  split at h
  · rename_i m hm
    obtain ⟨c0, t2, rfl, g4, g5⟩ := h2.cons
    cases g5.nil
    cases (show c0 = vi 0 from g4)
    split at h
    · rename_i kc kn dv tr ho
      obtain ⟨w1, w2, w3⟩ := h4.2.2 m _ (bget_lt 7 _ _ _ ho) ho
      cases hc : (Nat.beq kc 12 && Nat.beq kn 0) with
      | false => rw [hc] at h; cases h
      | true =>
        rw [hc, cond_true] at h
        rw [Bool.and_eq_true, beq_iff, beq_iff] at hc
        obtain ⟨rfl, rfl⟩ := hc
        split at h
        · rename_i da sa hda hsa
          split at h
          · rename_i dc dn z1 z2 sc sn sv sr hod hos
            obtain ⟨x1, x2, x3⟩ := h4.2.2 da _ (bget_lt 7 _ _ _ hod) hod
            obtain ⟨y1, y2, y3⟩ := h4.2.2 sa _ (bget_lt 7 _ _ _ hos) hos
            cases hd : ((Nat.beq dc 20 && Nat.beq dn 2314) && ((Nat.beq sc 20 && Nat.beq sn 2314) && not (Nat.beq da sa))) with
            | false => rw [hd] at h; cases h
            | true =>
              rw [hd, cond_true] at h
              rw [Bool.and_eq_true, Bool.and_eq_true, Bool.and_eq_true, Bool.and_eq_true, beq_iff, beq_iff, beq_iff, beq_iff, Bool.not_eq_true'] at hd
              obtain ⟨⟨rfl, rfl⟩, ⟨rfl, rfl⟩, hne⟩ := hd
              have hne2 : da ≠ sa := fun q => by rw [beq_iff.mpr q] at hne; cases hne
              have cd := w3 1 (by decide) (Or.inl (show 12 < 20 by decide))
              rw [show bget 12 (12, 0, dv, tr).2.2.2 1 = _ from hda] at cd
              have cs := w3 2 (by decide) (Or.inl (show 12 < 20 by decide))
              rw [show bget 12 (12, 0, dv, tr).2.2.2 2 = _ from hsa] at cs
              have hRd : R m 1 = some da := Sum.inr.inj (Sum.inr.inj (show vq (R m 1) = vr da from cd.plc rfl))
              have hRs : R m 2 = some sa := Sum.inr.inj (Sum.inr.inj (show vq (R m 2) = vr sa from cs.plc rfl))
              obtain ⟨l1, q1, q2⟩ := klK_ok h h1
              obtain ⟨q3, q4⟩ := lsetK_eq _ _ _ _ q2
              rw [bsetK_eq, dropN_eq] at q4
              have hll : (kl ls2 3).length = ls2.length := by
                unfold kl
                split
                · exact List.length_set
                · rfl
              have hb0 : (kl ls2 3)[0]? = some (vr m) := by
                have e0 : ls2[0]? = some (vr m) := by
                  rcases h1.get 0 with ⟨b0, e1, e2⟩ | ⟨-, e2⟩
                  · rw [hm] at e2
                    rw [e1]
                    exact congrArg some e2
                  · rw [hm] at e2
                    cases e2
                unfold kl
                split
                · rename_i x hx
                  by_cases hz : 3 - 1 = 0
                  · rw [hz, e0] at hx
                    cases hx
                  · rw [List.getElem?_set_ne hz]
                    exact e0
                · exact e0
              have hbl : ∀ x, (kl ls2 3)[3 - 1]? ≠ some (vl x) := by
                intro x hx
                unfold kl at hx
                split at hx
                · rename_i x2 hx2
                  rw [List.getElem?_set_self (by
                    rcases Nat.lt_or_ge (3 - 1) ls2.length with q | q
                    · exact q
                    · rw [List.getElem?_eq_none q] at hx2; cases hx2)] at hx
                  cases hx
                · rename_i hnx
                  exact hnx x hx
              refine s_istore_n (ls2 := (kl ls2 3).set 3 (vi 0)) mj_6 (by show 3 < ls2.length; rw [← hll, ← q1.len]; exact q3) rfl ?_
              refine mc_6 w2 hRd hRs x2 y2 hne2 hb0 (by rw [← q1.len]; exact q3) hbl (fun I2 hI2 => ?_)
              obtain ⟨e2, r2, p1, p2⟩ := mx_6
              obtain ⟨e3, r3, p3, p4⟩ := S.1 _ _ _ _ _ _ _ _ _ _ S.2.1 q4
              rw [p1] at p3
              cases p3
              rw [p2] at p4
              refine p4 ρ _ [] fs2 _ hC (q1.set 3 rfl) trivial h3 ?_
              refine h4.upd (bget_lt 7 _ _ _ hod) hod rfl rfl rfl (fun b j hb => ⟨?_, rfl⟩) (fun j hj hj2 => ?_)
              · show I2 b j = I b j
                rw [hI2 b j, if_neg (fun q => hb q.1)]
              · have hj3 : j < 2314 := by
                  rcases hj2 with q | q
                  · exact absurd q (by decide)
                  · exact q
                have hce : CE ρ 20 sv (bget 12 sr j) (I sa j) (R sa j) := y3 j hj (Or.inr hj3)
                show CE ρ 20 sv (bget 12 sr j) (I2 da j) (R da j)
                rw [hI2 da j, if_pos ⟨rfl, hj3⟩]
                cases hq : bget 12 sr j with
                | none =>
                  rw [hq] at hce
                  exact ⟨hce.1, fun q => by omega⟩
                | some w =>
                  rw [hq] at hce
                  rcases hce with hce | ⟨hce, -⟩
                  · exact Or.inl hce
                  · exfalso; omega
          · cases h
        · cases h
    · cases h
  · cases h
theorem mac_ok {k : Nat} (S : STP go k n (pc, i, len, a1, a2, a3) r) (hm : macB k pc a2 = true) (h0 : a2 ≠ 0) (h : x_mac go (pc, i, len, a1, a2, a3) D k (ops k) r ls st fs T s u C = true) : SemAt D k pc ls st fs T s u C := by
  match a2, hm, h0, h, S with
  | 0, hm, h0, h, S => exact absurd rfl h0
  | 1, hm, h0, h, S =>
    have hm : (Nat.beq k 186 && Nat.beq pc 47) = true := hm
    rw [Bool.and_eq_true, beq_iff, beq_iff] at hm
    obtain ⟨rfl, rfl⟩ := hm
    exact om_1 S h
  | 2, hm, h0, h, S =>
    have hm : (Nat.beq k 245 && Nat.beq pc 6) = true := hm
    rw [Bool.and_eq_true, beq_iff, beq_iff] at hm
    obtain ⟨rfl, rfl⟩ := hm
    exact om_2 S h
  | 3, hm, h0, h, S =>
    have hm : (Nat.beq k 279 && Nat.beq pc 26) = true := hm
    rw [Bool.and_eq_true, beq_iff, beq_iff] at hm
    obtain ⟨rfl, rfl⟩ := hm
    exact om_3 S h
  | 4, hm, h0, h, S =>
    have hm : (Nat.beq k 279 && Nat.beq pc 108) = true := hm
    rw [Bool.and_eq_true, beq_iff, beq_iff] at hm
    obtain ⟨rfl, rfl⟩ := hm
    exact om_4 S h
  | 5, hm, h0, h, S =>
    have hm : (Nat.beq k 280 && Nat.beq pc 16) = true := hm
    rw [Bool.and_eq_true, beq_iff, beq_iff] at hm
    obtain ⟨rfl, rfl⟩ := hm
    exact om_5 S h
  | 6, hm, h0, h, S =>
    have hm : (Nat.beq k 280 && Nat.beq pc 65) = true := hm
    rw [Bool.and_eq_true, beq_iff, beq_iff] at hm
    obtain ⟨rfl, rfl⟩ := hm
    exact om_6 S h
  | q + 7, hm, h0, h, S => cases (show false = true from h)
end
