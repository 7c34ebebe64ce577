/-! the evaluator tells the truth: calls, ends, switches -/
theorem wrp2_ok {ρ : Nat → Int} {t : Nat} {v w : VV} {m : MV} (h : wrp2 t v = some w) (r : VR ρ v m) : ty v = t ∧ (∀ x, m = vi x ∨ m = vl x → VR ρ w (vi (wr x))) := by
  unfold wrp2 at h
  cases hc : Nat.beq (ty v) t with
  | false => rw [hc] at h; cases h
  | true =>
    rw [hc, cond_true] at h
    refine ⟨beq_iff.mp hc, ?_⟩
    split at h
    · rename_i i z
      cases h
      rcases r with ⟨h9, -⟩ | ⟨h9, -⟩ | ⟨-, r⟩ | ⟨h9, -⟩ | ⟨h9, -⟩ | ⟨h9, -⟩ | ⟨h9, -⟩ | ⟨h9, -⟩ <;> first | (cases h9; done) | skip
      subst r
      intro x hx
      rcases hx with hx | hx <;> cases hx
      exact Or.inr (Or.inr (Or.inr (Or.inr (Or.inl ⟨rfl, rfl⟩))))
    · rename_i i z
      cases h
      cases r.t3
      intro x hx
      rcases hx with hx | hx <;> cases hx
      exact Or.inr (Or.inr (Or.inr (Or.inr (Or.inl ⟨rfl, rfl⟩))))
    · cases h
      intro x _
      exact Or.inr (Or.inr (Or.inr (Or.inr (Or.inr (Or.inl ⟨rfl, _, rfl, wr_bd x⟩)))))
    · cases h
section
variable {go : GO} {k n pc len a1 a2 a3 : Nat} {r : List OE} {D : Nat} {ls st : List VV} {fs : List FR} {T : HT} {s u : Nat} {C : CT}
theorem rev_nil {ms : List MV} : (ms.reverse ++ ([] : List MV)) = ms.reverse := List.append_nil _
theorem wrapM {idx a a2x : Nat} (S : STP go k n (pc, .invokevirtual idx, 3, a1, wrM, a3) r) (hp : pool (mcls k) idx = some (4, wrM, a3)) (hs : mstat wrM = false) (hn : ((mname wrM).name == "<init>") = false) {vs t0 : List VV} (h5 : wrapK 1 go vs t0 D k (ops k) r ls fs T s u C = true)
    {ρ : Nat → Int} {ms t3 ls2 : List MV} {fs2 : List (Nat × Nat × List MV × List MV)} {M : MM} (hC : BS ρ C) (h6 : VRs ρ vs ms.reverse) (q2 : VRs ρ t0 t3) (h1 : VRs ρ ls ls2) (h3 : FRs ρ fs fs2) (h4 : HR ρ T s u M) (hka : M.2.2.1 a = (mcls wrM, 0)) (hrl : ms.reverse.length = a3) : Wm D k pc ls2 (ms ++ vr a :: t3) M (KK QF fs2 (D + 1) k) := by
  unfold wrapK at h5
  cases hw : (Nat.ble (wdsV t0) 8 && Nat.ble 1 D) with
  | false => rw [hw] at h5; cases h5
  | true =>
    rw [hw, cond_true] at h5
    rw [Bool.and_eq_true, ble_iff, ble_iff, ← q2.wds] at hw
    split at h5
    · rename_i v
      obtain ⟨m, tl, e1, q3, q4⟩ := h6.cons
      cases q4.nil
      obtain ⟨w, q5, q6⟩ := oV_eq h5
      have e2 : ms = [m] := by
        have := congrArg List.reverse e1
        rw [List.reverse_reverse] at this
        exact this
      subst e2
      obtain ⟨d, rfl⟩ : ∃ d, D = d + 1 := ⟨D - 1, by omega⟩
      obtain ⟨x, rfl⟩ := VR.lng (wrp2_ok q5 q3).1 q3
      have hcon := wrM_ok d a x M
      refine g_inv (as := [vl x]) S.row.1 hp hrl hka hs hn hw.1 hcon ?_
      rintro r9 M9 ⟨rfl, rfl⟩
      exact S.next q6 ρ ls2 (vi (wr x) :: t3) fs2 _ hC h1 ⟨(wrp2_ok q5 q3).2 x (Or.inr rfl), q2⟩ h3 h4
    · cases h5
theorem o_inv {idx : Nat} (S : STP go k n (pc, .invokevirtual idx, len, a1, a2, a3) r) (hl : len = 3) (hp : pool (mcls k) idx = some (4, a2, a3)) (hy : a2 < nT) (hs : mstat a2 = false) (hn : ((mname a2).name == "<init>") = false) (h : x_inv go (pc, .invokevirtual idx, len, a1, a2, a3) D k (ops k) r ls st fs T s u C = true) : SemAt D k pc ls st fs T s u C := by
  subst hl
  intro ρ ls2 st2 fs2 M hC h1 h2 h3 h4
  obtain ⟨vs, t, ms, t2, h5, h6, h7, rfl, h9⟩ := popN_ok a3 st [] _ st2 [] (show popN a3 st [] _ = true from h) h2 trivial
  rw [rev_nil] at h6
  have hrl : ms.reverse.length = a3 := by rw [List.length_reverse, h9]
  split at h5
  · rename_i a t0
    obtain ⟨m2, t3, rfl, q1, q2⟩ := h7.cons
    cases (show m2 = vr a from q1)
    have hgo : invK go a2 a vs t0 D k (ops k) r ls fs T s u C = true := h5
    clear h5 h
    unfold invK at hgo
    split at hgo
    · rename_i kc kn z1 z2 ho
      rw [q7_eq] at ho
      obtain ⟨w1, w2, w3⟩ := h4.2.2 a _ ho
      split at hgo
      · rename_i q hm
        rw [q9_eq _ _ (by unfold nT at hy; omega)] at hm
        obtain ⟨-, -, m3, -⟩ := mt_at hy hm
        cases hc : (Nat.beq kc q.2.2 && Nat.beq kn 0) with
        | false => rw [hc] at hgo; cases hgo
        | true =>
          rw [hc, cond_true] at hgo
          rw [Bool.and_eq_true, beq_iff, beq_iff] at hc
          obtain ⟨hkc, rfl⟩ := hc
          have hka : M.2.2.1 a = (mcls a2, 0) := by rw [← m3, ← hkc]; exact w2
          cases hd : (Nat.beq a2 wrM && not (vs.all isC)) with
          | true =>
            rw [hd, cond_true] at hgo
            rw [Bool.and_eq_true, beq_iff] at hd
            obtain ⟨rfl, -⟩ := hd
            exact wrapM (a2x := 0) S hp hs hn hgo hC h6 q2 h1 h3 h4 hka hrl
          | false =>
            rw [hd, cond_false] at hgo
            cases hw : Nat.ble (wdsV t0) 8 with
            | false => rw [hw] at hgo; cases hgo
            | true =>
              rw [hw, cond_true] at hgo
              have h6b : VRs ρ (cR a :: vs) (vr a :: ms.reverse) := ⟨rfl, h6⟩
              have c2 := callR_ok S hy hm hgo hC h6b q2 h1 h3 h4
              have e : ms ++ vr a :: t3 = (ms.reverse).reverse ++ (vr a :: t3) := by rw [List.reverse_reverse]
              rw [e]
              exact g_inv S.row.1 hp hrl hka hs hn (by rw [q2.wds]; exact blm hw) c2 (fun r9 M9 q => q.2)
      · cases hgo
    · cases hgo
  · cases h5
theorem o_ini {idx : Nat} (S : STP go k n (pc, .invokespecial idx, len, a1, a2, a3) r) (hl : len = 3) (hp : pool (mcls k) idx = some (a1, a2, a3)) (hh : (a1 = 7 ∧ a2 = 0 ∧ a3 = 0) ∨ (a1 ≠ 7 ∧ a1 = 4 ∧ a2 < nT ∧ mstat a2 = false ∧ ((mname a2).name == "<init>") = true ∧ mret a2 = none)) (h : x_ini go (pc, .invokespecial idx, len, a1, a2, a3) D k (ops k) r ls st fs T s u C = true) : SemAt D k pc ls st fs T s u C := by
  subst hl
  intro ρ ls2 st2 fs2 M hC h1 h2 h3 h4
  unfold x_ini at h
  rcases hh with ⟨rfl, rfl, rfl⟩ | ⟨hn7, rfl, hy, hs, hn, hr⟩
  · rw [show Nat.beq (pc, Instr.invokespecial idx, 3, 7, 0, 0).2.2.2.1 7 = true from rfl, cond_true] at h
    unfold x_obj at h
    split at h
    · rename_i a t0
      obtain ⟨m2, t2, rfl, h7, h8⟩ := h2.cons
      cases (show m2 = vr a from h7)
      cases hw : Nat.ble (wdsV t0) 8 with
      | false => rw [hw] at h; cases h
      | true =>
        rw [hw, cond_true] at h
        rw [ble_iff, ← h8.wds] at hw
        obtain ⟨s0, u0, K, R, I⟩ := M
        exact s_obj S.row.1 hp hw (S.next h ρ ls2 t2 fs2 _ hC h1 h8 h3 h4)
    · cases h
  · rw [show Nat.beq (pc, Instr.invokespecial idx, 3, 4, a2, a3).2.2.2.1 7 = false from rfl, cond_false] at h
    obtain ⟨vs, t, ms, t2, h5, h6, h7, rfl, h9⟩ := popN_ok a3 st [] _ st2 [] (show popN a3 st [] _ = true from h) h2 trivial
    rw [rev_nil] at h6
    split at h5
    · rename_i a t0
      obtain ⟨m2, t3, rfl, q1, q2⟩ := h7.cons
      cases (show m2 = vr a from q1)
      have hrl : ms.reverse.length = a3 := by rw [List.length_reverse, h9]
      have h6b : VRs ρ (cR a :: vs) (vr a :: ms.reverse) := ⟨rfl, h6⟩
      obtain ⟨c1, c2⟩ := callK_ok S hy h5 hC h6b q2 h1 h3 h4
      have e : ms ++ vr a :: t3 = (ms.reverse).reverse ++ (vr a :: t3) := by rw [List.reverse_reverse]
      rw [e]
      exact g_ini S.row.1 hp hrl hs hn c1 c2 (fun r9 M9 q => ⟨q.1 hr, q.2⟩)
    · cases h5
theorem o_stc {idx : Nat} (S : STP go k n (pc, .invokestatic idx, 3, a1, a2, a3) r) (hp : pool (mcls k) idx = some (4, a2, a3)) (hy : a2 < nT) (hs : mstat a2 = true) (h : x_stc go (pc, .invokestatic idx, 3, a1, a2, a3) D k (ops k) r ls st fs T s u C = true) : SemAt D k pc ls st fs T s u C := by
  intro ρ ls2 st2 fs2 M hC h1 h2 h3 h4
  obtain ⟨vs, t, ms, t2, h5, h6, h7, rfl, h9⟩ := popN_ok a3 st [] _ st2 [] (show popN a3 st [] _ = true from h) h2 trivial
  rw [rev_nil] at h6
  have hrl : ms.reverse.length = a3 := by rw [List.length_reverse, h9]
  cases hd : (Nat.beq a2 wrC && not (vs.all isC)) with
  | true =>
    rw [show (Nat.beq (pc, Instr.invokestatic idx, 3, a1, a2, a3).2.2.2.2.1 wrC && not (vs.all isC)) = true from hd, cond_true] at h5
    unfold wrapK at h5
    cases hw : (Nat.ble (wdsV t) 8 && Nat.ble 1 D) with
    | false => rw [hw] at h5; cases h5
    | true =>
      rw [hw, cond_true] at h5
      rw [Bool.and_eq_true, ble_iff, ble_iff, ← h7.wds] at hw
      rw [Bool.and_eq_true, beq_iff] at hd
      obtain ⟨rfl, -⟩ := hd
      split at h5
      · rename_i v
        obtain ⟨m, tl, e1, q3, q4⟩ := h6.cons
        cases q4.nil
        obtain ⟨w, q5, q6⟩ := oV_eq h5
        have e2 : ms = [m] := by
          have := congrArg List.reverse e1
          rw [List.reverse_reverse] at this
          exact this
        subst e2
        obtain ⟨d, rfl⟩ : ∃ d, D = d + 1 := ⟨D - 1, by omega⟩
        obtain ⟨x, rfl⟩ := VR.int (wrp2_ok q5 q3).1 q3
        refine g_sta (as := [vi x]) S.row.1 hp hrl hs hw.1 (wrC_ok d x M) ?_
        rintro r9 M9 ⟨rfl, rfl⟩
        exact S.next q6 ρ ls2 (vi (wr x) :: t2) fs2 _ hC h1 ⟨(wrp2_ok q5 q3).2 x (Or.inl rfl), h7⟩ h3 h4
      · cases h5
  | false =>
    rw [show (Nat.beq (pc, Instr.invokestatic idx, 3, a1, a2, a3).2.2.2.2.1 wrC && not (vs.all isC)) = false from hd, cond_false] at h5
    obtain ⟨c1, c2⟩ := callK_ok S hy h5 hC h6 h7 h1 h3 h4
    have e : ms ++ t2 = (ms.reverse).reverse ++ t2 := by rw [List.reverse_reverse]
    rw [e]
    exact g_sta S.row.1 hp hrl hs c1 c2 (fun r9 M9 q => q.2)
theorem o_cpy {idx : Nat} (S : STP go k n (pc, .invokestatic idx, 3, a1, a2, a3) r) (hp : pool (mcls k) idx = some (6, 0, 0)) (h : x_cpy go (pc, .invokestatic idx, 3, a1, a2, a3) D k (ops k) r ls st fs T s u C = true) : SemAt D k pc ls st fs T s u C := by
  intro ρ ls2 st2 fs2 M hC h1 h2 h3 h4
  obtain ⟨s0, u0, K, R, I⟩ := M
  unfold x_cpy at h
  split at h
  · rename_i m b a t0
    obtain ⟨m0, t1, rfl, b0, c0⟩ := h2.cons
    obtain ⟨m1, t2, rfl, b1, c1⟩ := c0.cons
    obtain ⟨m2, t3, rfl, b2, c2⟩ := c1.cons
    obtain ⟨m3, t4, rfl, b3, c3⟩ := c2.cons
    obtain ⟨m4, t5, rfl, b4, c4⟩ := c3.cons
    cases (show m0 = vi ((m : Nat) : Int) from b0)
    cases (show m1 = vi 0 from b1)
    cases (show m2 = vr b from b2)
    cases (show m3 = vi 0 from b3)
    cases (show m4 = vr a from b4)
    split at h
    · rename_i ka na F A kb nb z1 z2 hoa hob
      rw [q7_eq] at hoa hob
      obtain ⟨w1, w2, w3⟩ := h4.2.2 a _ hoa
      obtain ⟨x1, x2, x3⟩ := h4.2.2 b _ hob
      cases hc : (Nat.ble (wdsV t0) 8 && ((Nat.beq ka 20 || Nat.beq ka 21) && (Nat.beq ka kb && (Nat.beq m na && Nat.beq m nb)))) with
      | false => rw [hc] at h; cases h
      | true =>
        rw [hc, cond_true, bsetK_eq] at h
        rw [Bool.and_eq_true, Bool.and_eq_true, Bool.and_eq_true, Bool.and_eq_true, Bool.or_eq_true, ble_iff, beq_iff, beq_iff, beq_iff, beq_iff, beq_iff, ← c4.wds] at hc
        obtain ⟨d1, d2, rfl, rfl, rfl⟩ := hc
        refine s_copy S.row.1 hp d1 (show K a = (ka, m) from w2) (show K b = (ka, m) from x2) d2 (by omega) (by omega) (by omega) (by omega) (by omega) rfl ?_
        refine S.next h ρ ls2 t5 fs2 _ hC h1 c4 h3 ?_
        refine h4.upd hob rfl rfl rfl (fun c j hc => ⟨?_, rfl⟩) (fun j hj2 => ?_)
        · show cpI I a b _ _ _ c j = I c j
          unfold cpI
          rw [if_neg (fun q => hc q.1)]
        · have hj3 : j < m := by
            rcases hj2 with q | q
            · omega
            · exact q
          have hce : CE ρ ka F A j (I a j) (R a j) := w3 j (Or.inr hj3)
          have hin : isN ka = true := by rcases d2 with rfl | rfl <;> rfl
          show CE ρ ka F A j (cpI I a b _ _ _ b j) (R b j)
          have e : cpI I a b (Int.toNat 0) (Int.toNat 0) (Int.toNat (m : Int)) b j = I a j := by
            unfold cpI
            rw [if_pos ⟨rfl, by omega, by omega⟩]
            rw [show Int.toNat 0 + (j - Int.toNat 0) = j by omega]
          rw [e]
          exact ⟨hce.1, fun q => by rw [hin] at q; cases q⟩
    · cases h
  · cases h
theorem o_sta {idx : Nat} (S : STP go k n (pc, .invokestatic idx, len, a1, a2, a3) r) (hl : len = 3) (hp : pool (mcls k) idx = some (a1, a2, a3)) (hh : (a1 = 4 ∧ a2 < nT ∧ mstat a2 = true) ∨ (a1 ≠ 4 ∧ a2 = 0 ∧ a3 = 0)) (h : x_sta go (pc, .invokestatic idx, len, a1, a2, a3) D k (ops k) r ls st fs T s u C = true) : SemAt D k pc ls st fs T s u C := by
  subst hl
  unfold x_sta at h
  rcases hh with ⟨rfl, hy, hs⟩ | ⟨hn4, rfl, rfl⟩
  · rw [show Nat.beq (pc, Instr.invokestatic idx, 3, 4, a2, a3).2.2.2.1 4 = true from rfl, cond_true] at h
    exact o_stc S hp hy hs h
  · have h44 : Nat.beq a1 4 = false := by cases q : Nat.beq a1 4 with
      | false => rfl
      | true => exact absurd (beq_iff.mp q) hn4
    rw [show Nat.beq (pc, Instr.invokestatic idx, 3, a1, 0, 0).2.2.2.1 4 = false from h44, cond_false] at h
    cases h6 : Nat.beq a1 6 with
    | true =>
      rw [show Nat.beq (pc, Instr.invokestatic idx, 3, a1, 0, 0).2.2.2.1 6 = true from h6, cond_true] at h
      rw [beq_iff] at h6
      subst h6
      exact o_cpy S hp h
    | false =>
      rw [show Nat.beq (pc, Instr.invokestatic idx, 3, a1, 0, 0).2.2.2.1 6 = false from h6, cond_false] at h
      intro ρ ls2 st2 fs2 M hC h1 h2 h3 h4
      obtain ⟨s0, u0, K, R, I⟩ := M
      cases h89 : (Nat.ble 8 a1 && Nat.ble a1 9) with
      | true =>
        rw [show (Nat.ble 8 (pc, Instr.invokestatic idx, 3, a1, 0, 0).2.2.2.1 && Nat.ble (pc, Instr.invokestatic idx, 3, a1, 0, 0).2.2.2.1 9) = true from h89, cond_true] at h
        rw [Bool.and_eq_true, ble_iff, ble_iff] at h89
        unfold x_mm at h
        split at h
        · rename_i y x t0
          obtain ⟨my, t1, rfl, b0, c0⟩ := h2.cons
          obtain ⟨mx, t2, rfl, b1, c1⟩ := c0.cons
          cases hw : Nat.ble (wdsV t0) 8 with
          | false => rw [hw] at h; cases h
          | true =>
            rw [hw, cond_true] at h
            rw [ble_iff, ← c1.wds] at hw
            obtain ⟨v, q1, q2⟩ := oV_eq h
            obtain ⟨a, b, rfl, rfl, q3⟩ := bin2_ok q1 b0 b1
            rcases (by omega : a1 = 8 ∨ a1 = 9) with rfl | rfl
            · exact s_max S.row.1 hp hw (S.next q2 ρ ls2 (vi (mxI a b) :: t2) fs2 _ hC h1 ⟨q3, c1⟩ h3 h4)
            · exact s_min S.row.1 hp hw (S.next q2 ρ ls2 (vi (mnI a b) :: t2) fs2 _ hC h1 ⟨q3, c1⟩ h3 h4)
        · cases h
      | false =>
        rw [show (Nat.ble 8 (pc, Instr.invokestatic idx, 3, a1, 0, 0).2.2.2.1 && Nat.ble (pc, Instr.invokestatic idx, 3, a1, 0, 0).2.2.2.1 9) = false from h89, cond_false] at h
        cases h10 : Nat.beq a1 10 with
        | true =>
          rw [show Nat.beq (pc, Instr.invokestatic idx, 3, a1, 0, 0).2.2.2.1 10 = true from h10, cond_true] at h
          rw [beq_iff] at h10
          subst h10
          unfold x_abs at h
          split at h
          · rename_i x t0
            obtain ⟨mx, t2, rfl, b1, c1⟩ := h2.cons
            cases hw : Nat.ble (wdsV t0) 8 with
            | false => rw [hw] at h; cases h
            | true =>
              rw [hw, cond_true] at h
              rw [ble_iff, ← c1.wds] at hw
              obtain ⟨v, q1, q2⟩ := oV_eq h
              obtain ⟨a, rfl, q3⟩ := un2_ok q1 b1
              exact s_abs S.row.1 hp hw (S.next q2 ρ ls2 (vi (abI a) :: t2) fs2 _ hC h1 ⟨q3, c1⟩ h3 h4)
          · cases h
        | false =>
          rw [show Nat.beq (pc, Instr.invokestatic idx, 3, a1, 0, 0).2.2.2.1 10 = false from h10, cond_false] at h
          cases h11 : Nat.beq a1 11 with
          | true =>
            rw [show Nat.beq (pc, Instr.invokestatic idx, 3, a1, 0, 0).2.2.2.1 11 = true from h11, cond_true] at h
            rw [beq_iff] at h11
            subst h11
            unfold x_absl at h
            split at h
            · rename_i x t0
              obtain ⟨mx, t2, rfl, b1, c1⟩ := h2.cons
              cases hw : Nat.ble (wdsV t0) 8 with
              | false => rw [hw] at h; cases h
              | true =>
                rw [hw, cond_true] at h
                rw [ble_iff, ← c1.wds] at hw
                obtain ⟨v, q1, q2⟩ := oV_eq h
                obtain ⟨a, rfl, q3⟩ := lun2_ok q1 b1
                exact s_absl S.row.1 hp hw (S.next q2 ρ ls2 (vl (abL a) :: t2) fs2 _ hC h1 ⟨q3, c1⟩ h3 h4)
            · cases h
          | false =>
            rw [show Nat.beq (pc, Instr.invokestatic idx, 3, a1, 0, 0).2.2.2.1 11 = false from h11, cond_false] at h
            cases h
theorem o_ret {v : VV} {m : MV} {fs2 : List (Nat × Nat × List MV × List MV)} {ρ : Nat → Int} {M : MM} {k2 : Nat} {cc2 c2 : List OE} {ls2 st2 : List VV} {fs1 : List FR} (hg : GOK go) (h : go (D + 1) k2 cc2 c2 ls2 (v :: st2) fs1 T s u C = true) (hv : VR ρ v m) (hC : BS ρ C) (hf : FRs ρ ((k2, cc2, c2, ls2, st2) :: fs1) fs2) (hH : HR ρ T s u M) (hr : mret k = none → False) : KK QF fs2 (D + 1) k (some m) M := by
  match fs2, hf with
  | [], hf => exact hf.elim
  | (k3, pc3, ls3, st3) :: fs3, hf =>
    obtain ⟨rfl, f2, rfl, ⟨n3, e3, r3, f3, f4, rfl⟩, f5, f6, f7⟩ := hf
    refine ⟨fun q => (hr q).elim, ?_⟩
    rw [f3] at h
    obtain ⟨e4, r4, q1, q2⟩ := hg _ _ _ _ _ _ _ _ _ _ f2 h
    rw [← f3, f4] at q1
    cases q1
    exact q2 ρ ls3 (m :: st3) fs3 M hC f5 ⟨hv, f6⟩ f7 hH
theorem o_iret (S : STP go k n (pc, .ireturn, len, a1, a2, a3) r) (hl : len = 1) (hr : (a1 = 1 ∧ mret k = some .int) ∨ (a1 = 2 ∧ mret k = some .boolean)) (h : x_iret go (pc, .ireturn, len, a1, a2, a3) D k (ops k) r ls st fs T s u C = true) : SemAt D k pc ls st fs T s u C := by
  subst hl
  intro ρ ls2 st2 fs2 M hC h1 h2 h3 h4
  have hn : mret k = none → False := fun q => by rcases hr with ⟨-, q2⟩ | ⟨-, q2⟩ <;> rw [q] at q2 <;> cases q2
  unfold x_iret at h
  split at h
  · rename_i v
    obtain ⟨m, t2, rfl, h5, h6⟩ := h2.cons
    cases h6.nil
    cases hc : okG a1 v with
    | false => rw [show okG (pc, Instr.ireturn, 1, a1, a2, a3).2.2.2.1 v = false from hc] at h; cases h
    | true =>
      rw [show okG (pc, Instr.ireturn, 1, a1, a2, a3).2.2.2.1 v = true from hc, cond_true] at h
      have hK : KK QF fs2 (D + 1) k (some m) M := by
        split at h
        · rename_i k2 cc2 c2 l2 s2 f2
          exact o_ret S.1 h h5 hC h3 h4 hn
        · split at h
          · rename_i x
            match fs2, h3 with
            | [], _ =>
              rw [Bool.and_eq_true, Bool.and_eq_true, eqB_iff, ble_iff, ble_iff] at h
              obtain ⟨rfl, q1, q2⟩ := h
              refine ⟨congrArg some h5, ?_, ?_⟩
              · rw [h4.1]; exact q1
              · rw [h4.2.1]; exact q2
            | _ :: _, h3 => exact h3.elim
          · cases h
      rcases okG_1 hc h5 with ⟨rfl, x, rfl⟩ | ⟨rfl, x, rfl, hx⟩ | ⟨rfl, x, rfl⟩
      · rcases hr with ⟨-, hr⟩ | ⟨q, -⟩
        · exact s_iret S.row.1 hr hK
        · cases q
      · rcases hr with ⟨q, -⟩ | ⟨-, hr⟩
        · cases q
        · exact s_zret S.row.1 hr hx hK
      · rcases hr with ⟨q, -⟩ | ⟨q, -⟩ <;> cases q
  · cases h
theorem o_lret (S : STP go k n (pc, .lreturn, len, a1, a2, a3) r) (hl : len = 1) (hr : mret k = some .long) (h : x_lret go (pc, .lreturn, len, a1, a2, a3) D k (ops k) r ls st fs T s u C = true) : SemAt D k pc ls st fs T s u C := by
  subst hl
  intro ρ ls2 st2 fs2 M hC h1 h2 h3 h4
  have hn : mret k = none → False := fun q => by rw [q] at hr; cases hr
  unfold x_lret at h
  split at h
  · rename_i v
    obtain ⟨m, t2, rfl, h5, h6⟩ := h2.cons
    cases h6.nil
    cases hc : Nat.beq (ty v) 1 with
    | false => rw [hc] at h; cases h
    | true =>
      rw [hc, cond_true] at h
      obtain ⟨x, rfl⟩ := VR.lng (beq_iff.mp hc) h5
      split at h
      · exact s_lret S.row.1 hr (o_ret S.1 h h5 hC h3 h4 hn)
      · cases h
  · cases h
theorem o_vret (S : STP go k n (pc, .return_, len, a1, a2, a3) r) (hl : len = 1) (hr : mret k = none) (h : x_vret go (pc, .return_, len, a1, a2, a3) D k (ops k) r ls st fs T s u C = true) : SemAt D k pc ls st fs T s u C := by
  subst hl
  intro ρ ls2 st2 fs2 M hC h1 h2 h3 h4
  unfold x_vret at h
  split at h
  · cases h2.nil
    split at h
    · rename_i k2 cc2 c2 l2 s2 f2
      refine s_vret S.row.1 hr ?_
      match fs2, h3 with
      | [], hf => exact hf.elim
      | (k3, pc3, ls3, st3) :: fs3, hf =>
        obtain ⟨rfl, f2, rfl, ⟨n3, e3, r3, f3, f4, rfl⟩, f5, f6, f7⟩ := hf
        refine ⟨fun q => rfl, ?_⟩
        rw [f3] at h
        obtain ⟨e4, r4, q1, q2⟩ := S.1 _ _ _ _ _ _ _ _ _ _ f2 h
        rw [← f3, f4] at q1
        cases q1
        exact q2 ρ ls3 st3 fs3 M hC f5 f6 f7 h4
    · cases h
  · cases h
theorem sw_step {df lo hi : Int} {offs : Array Int} (S : STP go k n (pc, .tableswitch df lo hi offs, len, a1, a2, a3) r) {x : Int} (hok : swOK pc df lo hi offs x = true) (hg : go D k (ops k) (swT (ops k) pc df lo hi offs x) ls st fs T s u C = true)
    {ρ : Nat → Int} {ls2 t2 : List MV} {fs2 : List (Nat × Nat × List MV × List MV)} {M : MM} (hC : BS ρ C) (h1 : VRs ρ ls ls2) (h2 : VRs ρ st t2) (h3 : FRs ρ fs fs2) (h4 : HR ρ T s u M) : Wm D k pc ls2 (vi x :: t2) M (KK QF fs2 (D + 1) k) := by
  unfold swOK at hok
  unfold swT at hg
  obtain ⟨s0, u0, K, R, I⟩ := M
  cases hc : (ltB x lo || ltB hi x) with
  | true =>
    rw [hc, cond_true] at hok hg
    rw [Bool.or_eq_true, ltB_iff, ltB_iff] at hc
    rw [Bool.not_eq_true', ltB_f] at hok
    exact s_swOut (Int.toNat ((pc : Int) + df)) S.row.1 hc (by omega) (S.find hg ρ ls2 t2 fs2 _ hC h1 h2 h3 h4)
  | false =>
    rw [hc, cond_false] at hok hg
    rw [Bool.or_eq_false_iff, ltB_f, ltB_f] at hc
    rw [Bool.and_eq_true, Bool.not_eq_true', ltB_f, ble_iff] at hok
    obtain ⟨q1, q2⟩ := hok
    have q3 : offs[(x - lo).toNat]? = some (offs.toList.getD (Int.toNat (x - lo)) (-1)) := by
      rw [← Array.getElem?_toList, List.getD_eq_getElem?_getD, List.getElem?_eq_getElem q1]
      rfl
    exact s_swIn (offs.toList.getD (Int.toNat (x - lo)) (-1)) (Int.toNat ((pc : Int) + offs.toList.getD (Int.toNat (x - lo)) (-1))) S.row.1 (by omega) (by omega) q3 (by omega) (S.find hg ρ ls2 t2 fs2 _ hC h1 h2 h3 h4)
theorem o_sw {df lo hi : Int} {offs : Array Int} (S : STP go k n (pc, .tableswitch df lo hi offs, len, a1, a2, a3) r) (h : x_sw df lo hi offs go (pc, .tableswitch df lo hi offs, len, a1, a2, a3) D k (ops k) r ls st fs T s u C = true) : SemAt D k pc ls st fs T s u C := by
  intro ρ ls2 st2 fs2 M hC h1 h2 h3 h4
  unfold x_sw at h
  split at h
  · rename_i x t0
    obtain ⟨m, t2, rfl, h5, h6⟩ := h2.cons
    cases (show m = vi x from h5)
    rw [Bool.and_eq_true] at h
    exact sw_step S h.1 h.2 hC h1 h6 h3 h4
  · rename_i i z t0
    obtain ⟨m, t2, rfl, h5, h6⟩ := h2.cons
    rcases h5 with ⟨h9, -⟩ | ⟨h9, -⟩ | ⟨-, h5⟩ | ⟨h9, -⟩ | ⟨h9, -⟩ | ⟨h9, -⟩ | ⟨h9, -⟩ | ⟨h9, -⟩ <;> first | (cases h9; done) | skip
    subst h5
    have hb := hC.2 i.toNat
    cases hc : (ltB (bnd C i.toNat).2 lo || ltB hi (bnd C i.toNat).1) with
    | true =>
      rw [hc, cond_true, Bool.and_eq_true] at h
      rw [Bool.or_eq_true, ltB_iff, ltB_iff] at hc
      have hx : (ltB (ρ i.toNat) lo || ltB hi (ρ i.toNat)) = true := by
        rw [Bool.or_eq_true, ltB_iff, ltB_iff]
        omega
      refine sw_step S (x := ρ i.toNat) ?_ ?_ hC h1 h6 h3 h4
      · unfold swOK; rw [hx, cond_true]; exact h.1
      · unfold swT; rw [hx, cond_true]; exact h.2
    | false =>
      rw [hc, cond_false, List.all_eq_true] at h
      have hj := h (ρ i.toNat - (bnd C i.toNat).1).toNat (List.mem_range.mpr (by omega))
      rw [fI_eq, show (bnd C i.toNat).1 + (((ρ i.toNat - (bnd C i.toNat).1).toNat : Nat) : Int) = ρ i.toNat by omega, Bool.and_eq_true, List.all_eq_true] at hj
      obtain ⟨C1, c1, c2⟩ := bx_ok (cond (eqB i 6) (spl (ρ i.toNat)) []) (C.set i.toNat (ρ i.toNat, ρ i.toNat)) (hC.set (Int.le_refl _) (Int.le_refl _))
      exact sw_step S hj.1 (hj.2 C1 c1) c2 h1 h6 h3 h4
  · cases h
end
