/-! the evaluator tells the truth: branches, cells, calls, ends -/
theorem g_icmp {d k pc tgt : Nat} {ls t : List MV} {M : MM} {Q : Option MV → MM → Prop} {c : Jvm.ClassFile.Cond} {off x y : Int} (hd : decode (mcode k) pc = .ok (.if_icmp c off, 3)) (ht : (pc : Int) + off = (tgt : Int)) (kk : (cmI c x y ∧ Wm d k tgt ls t M Q) ∨ (¬ cmI c x y ∧ Wm d k (pc + 3) ls t M Q)) : Wm d k pc ls (vi y :: vi x :: t) M Q := by
  rcases kk with ⟨hc, n, r, M2, h, q⟩ | ⟨hc, n, r, M2, h, q⟩
  · exact ⟨n + 1, r, M2, ⟨h.mono, _, _, hd, Or.inr ⟨rfl, x, y, t, rfl, tgt, ht, fun _ => h, fun h2 => absurd hc h2⟩⟩, q⟩
  · exact ⟨n + 1, r, M2, ⟨h.mono, _, _, hd, Or.inr ⟨rfl, x, y, t, rfl, tgt, ht, fun h2 => absurd h2 hc, fun _ => h⟩⟩, q⟩
theorem g_if {d k pc tgt : Nat} {ls t : List MV} {M : MM} {Q : Option MV → MM → Prop} {c : Jvm.ClassFile.Cond} {off x : Int} (hd : decode (mcode k) pc = .ok (.ifCond c off, 3)) (ht : (pc : Int) + off = (tgt : Int)) (kk : (cmI c x 0 ∧ Wm d k tgt ls t M Q) ∨ (¬ cmI c x 0 ∧ Wm d k (pc + 3) ls t M Q)) : Wm d k pc ls (vi x :: t) M Q := by
  rcases kk with ⟨hc, n, r, M2, h, q⟩ | ⟨hc, n, r, M2, h, q⟩
  · exact ⟨n + 1, r, M2, ⟨h.mono, _, _, hd, Or.inr ⟨rfl, x, t, rfl, tgt, ht, fun _ => h, fun h2 => absurd hc h2⟩⟩, q⟩
  · exact ⟨n + 1, r, M2, ⟨h.mono, _, _, hd, Or.inr ⟨rfl, x, t, rfl, tgt, ht, fun h2 => absurd h2 hc, fun _ => h⟩⟩, q⟩
section
variable {go : GO} {k n pc len a1 a2 a3 : Nat} {r : List OE} {D : Nat} {ls st : List VV} {fs : List FR} {T : HT} {s u : Nat} {C : CT}
theorem o_icmp {c : Jvm.ClassFile.Cond} {off : Int} (S : STP go k n (pc, .if_icmp c off, len, a1, a2, a3) r) (hl : len = 3) (ht : tgB pc off (dropN a1 (ops k)) = true) (h : x_icmp c go (pc, .if_icmp c off, len, a1, a2, a3) D k (ops k) r ls st fs T s u C = true) : SemAt D k pc ls st fs T s u C := by
  subst hl
  intro ρ ls2 st2 fs2 M hC h1 h2 h3 h4
  match st, h, h2 with
  | [], h, _ => cases h
  | [_], h, _ => cases h
  | y :: x :: t0, h, h2 =>
    obtain ⟨my, t1, rfl, h5, h6⟩ := h2.cons
    obtain ⟨mx, t2, rfl, h7, h8⟩ := h6.cons
    obtain ⟨a, b, rfl, rfl, hb⟩ := br_ok (show x_br c C x y (fun C1 => go D k (ops k) (dropN a1 (ops k)) ls t0 fs T s u C1) (fun C1 => go D k (ops k) r ls t0 fs T s u C1) = true from h) hC h7 h5
    obtain ⟨tgt, q1, q2⟩ := S.goto ht
    refine g_icmp S.row.1 q1 ?_
    rcases hb with ⟨hc, C1, q3, q4⟩ | ⟨hc, C1, q3, q4⟩
    · exact Or.inl ⟨hc, q2 q4 ρ ls2 t2 fs2 M q3 h1 h8 h3 h4⟩
    · exact Or.inr ⟨hc, S.next q4 ρ ls2 t2 fs2 M q3 h1 h8 h3 h4⟩
theorem o_if {c : Jvm.ClassFile.Cond} {off : Int} (S : STP go k n (pc, .ifCond c off, len, a1, a2, a3) r) (hl : len = 3) (ht : tgB pc off (dropN a1 (ops k)) = true) (h : x_if c go (pc, .ifCond c off, len, a1, a2, a3) D k (ops k) r ls st fs T s u C = true) : SemAt D k pc ls st fs T s u C := by
  subst hl
  intro ρ ls2 st2 fs2 M hC h1 h2 h3 h4
  match st, h, h2 with
  | [], h, _ => cases h
  | x :: t0, h, h2 =>
    obtain ⟨mx, t2, rfl, h7, h8⟩ := h2.cons
    obtain ⟨a, b, rfl, hb0, hb⟩ := br_ok (my := vi 0) (show x_br c C x (ci 0) (fun C1 => go D k (ops k) (dropN a1 (ops k)) ls t0 fs T s u C1) (fun C1 => go D k (ops k) r ls t0 fs T s u C1) = true from h) hC h7 rfl
    cases hb0
    obtain ⟨tgt, q1, q2⟩ := S.goto ht
    refine g_if S.row.1 q1 ?_
    rcases hb with ⟨hc, C1, q3, q4⟩ | ⟨hc, C1, q3, q4⟩
    · exact Or.inl ⟨hc, q2 q4 ρ ls2 t2 fs2 M q3 h1 h8 h3 h4⟩
    · exact Or.inr ⟨hc, S.next q4 ρ ls2 t2 fs2 M q3 h1 h8 h3 h4⟩
theorem o_goto {off : Int} (S : STP go k n (pc, .goto off, len, a1, a2, a3) r) (hl : len = 3) (ht : tgB pc off (dropN a1 (ops k)) = true) (h : x_goto go (pc, .goto off, len, a1, a2, a3) D k (ops k) r ls st fs T s u C = true) : SemAt D k pc ls st fs T s u C := by
  subst hl
  intro ρ ls2 st2 fs2 M hC h1 h2 h3 h4
  obtain ⟨tgt, q1, q2⟩ := S.goto ht
  obtain ⟨s0, u0, K, R, I⟩ := M
  exact s_goto tgt S.row.1 q1 (q2 h ρ ls2 st2 fs2 _ hC h1 h2 h3 h4)
theorem o_ifnull {off : Int} (S : STP go k n (pc, .ifnull off, len, a1, a2, a3) r) (hl : len = 3) (ht : tgB pc off (dropN a1 (ops k)) = true) (h : x_ifnull go (pc, .ifnull off, len, a1, a2, a3) D k (ops k) r ls st fs T s u C = true) : SemAt D k pc ls st fs T s u C := by
  subst hl
  intro ρ ls2 st2 fs2 M hC h1 h2 h3 h4
  obtain ⟨tgt, q1, q2⟩ := S.goto ht
  obtain ⟨s0, u0, K, R, I⟩ := M
  unfold x_ifnull at h
  split at h
  · obtain ⟨m, t2, rfl, h7, h8⟩ := h2.cons
    cases (show m = vn from h7)
    exact s_ifnull tgt S.row.1 q1 (fun _ => q2 h ρ ls2 t2 fs2 _ hC h1 h8 h3 h4) (fun h9 => absurd rfl h9)
  · rename_i a _
    obtain ⟨m, t2, rfl, h7, h8⟩ := h2.cons
    cases (show m = vr a from h7)
    exact s_ifnull tgt S.row.1 q1 (fun h9 => by cases h9) (fun _ => S.next h ρ ls2 t2 fs2 _ hC h1 h8 h3 h4)
  · cases h
theorem o_ifnonnull {off : Int} (S : STP go k n (pc, .ifnonnull off, len, a1, a2, a3) r) (hl : len = 3) (ht : tgB pc off (dropN a1 (ops k)) = true) (h : x_ifnonnull go (pc, .ifnonnull off, len, a1, a2, a3) D k (ops k) r ls st fs T s u C = true) : SemAt D k pc ls st fs T s u C := by
  subst hl
  intro ρ ls2 st2 fs2 M hC h1 h2 h3 h4
  obtain ⟨tgt, q1, q2⟩ := S.goto ht
  obtain ⟨s0, u0, K, R, I⟩ := M
  unfold x_ifnonnull at h
  split at h
  · obtain ⟨m, t2, rfl, h7, h8⟩ := h2.cons
    cases (show m = vn from h7)
    exact s_ifnonnull tgt S.row.1 q1 (fun h9 => absurd rfl h9) (fun _ => S.next h ρ ls2 t2 fs2 _ hC h1 h8 h3 h4)
  · rename_i a _
    obtain ⟨m, t2, rfl, h7, h8⟩ := h2.cons
    cases (show m = vr a from h7)
    exact s_ifnonnull tgt S.row.1 q1 (fun _ => q2 h ρ ls2 t2 fs2 _ hC h1 h8 h3 h4) (fun h9 => by cases h9)
  · cases h
theorem o_dup (S : STP go k n (pc, .dup, len, a1, a2, a3) r) (hl : len = 1) (h : x_dup go (pc, .dup, len, a1, a2, a3) D k (ops k) r ls st fs T s u C = true) : SemAt D k pc ls st fs T s u C := by
  subst hl
  intro ρ ls2 st2 fs2 M hC h1 h2 h3 h4
  obtain ⟨s0, u0, K, R, I⟩ := M
  unfold x_dup at h
  split at h
  · rename_i v t0
    obtain ⟨m, t2, rfl, h7, h8⟩ := h2.cons
    cases hc : Nat.beq (ty v) 1 with
    | true => rw [hc] at h; cases h
    | false =>
      rw [hc] at h
      have hw : wd m = 1 := by rw [h7.wd]; unfold wdV; rw [hc]; rfl
      exact s_dup S.row.1 hw (S.next h ρ ls2 (m :: m :: t2) fs2 _ hC h1 ⟨h7, h7, h8⟩ h3 h4)
  · cases h
theorem o_dup2 (S : STP go k n (pc, .dup2, len, a1, a2, a3) r) (hl : len = 1) (h : x_dup2 go (pc, .dup2, len, a1, a2, a3) D k (ops k) r ls st fs T s u C = true) : SemAt D k pc ls st fs T s u C := by
  subst hl
  intro ρ ls2 st2 fs2 M hC h1 h2 h3 h4
  obtain ⟨s0, u0, K, R, I⟩ := M
  unfold x_dup2 at h
  split at h
  · rename_i v w t0
    obtain ⟨m, t1, rfl, h5, h6⟩ := h2.cons
    obtain ⟨m2, t2, rfl, h7, h8⟩ := h6.cons
    cases hc : Nat.beq (ty v) 1 with
    | true => rw [hc] at h; cases h
    | false =>
      rw [hc] at h
      cases hd : Nat.beq (ty w) 1 with
      | true => rw [hd] at h; cases h
      | false =>
        rw [hd] at h
        have hw : wd m = 1 := by rw [h5.wd]; unfold wdV; rw [hc]; rfl
        have hw2 : wd m2 = 1 := by rw [h7.wd]; unfold wdV; rw [hd]; rfl
        exact s_dup2 S.row.1 hw hw2 (S.next h ρ ls2 (m :: m2 :: m :: m2 :: t2) fs2 _ hC h1 ⟨h5, h7, h5, h7, h8⟩ h3 h4)
  · cases h
theorem o_pop (S : STP go k n (pc, .pop, len, a1, a2, a3) r) (hl : len = 1) (h : x_pop go (pc, .pop, len, a1, a2, a3) D k (ops k) r ls st fs T s u C = true) : SemAt D k pc ls st fs T s u C := by
  subst hl
  intro ρ ls2 st2 fs2 M hC h1 h2 h3 h4
  obtain ⟨s0, u0, K, R, I⟩ := M
  unfold x_pop at h
  split at h
  · rename_i v t0
    obtain ⟨m, t2, rfl, h7, h8⟩ := h2.cons
    cases hc : Nat.beq (ty v) 1 with
    | true => rw [hc] at h; cases h
    | false =>
      rw [hc] at h
      have hw : wd m = 1 := by rw [h7.wd]; unfold wdV; rw [hc]; rfl
      exact s_pop S.row.1 hw (S.next h ρ ls2 t2 fs2 _ hC h1 h8 h3 h4)
  · cases h
theorem o_iinc {j : Nat} {z : Int} (S : STP go k n (pc, .iinc j z, len, a1, a2, a3) r) (hl : len = 3) (hj : j = a1) (h : x_iinc z go (pc, .iinc j z, len, a1, a2, a3) D k (ops k) r ls st fs T s u C = true) : SemAt D k pc ls st fs T s u C := by
  subst hl; subst hj
  intro ρ ls2 st2 fs2 M hC h1 h2 h3 h4
  obtain ⟨s0, u0, K, R, I⟩ := M
  obtain ⟨v, q1, q2⟩ := oV_eq (show oV (un2 (fun x => fadd x z) (lget j ls)) (fun v => klK j ls (fun l1 => lsetK j l1 v (fun l2 => go D k (ops k) r l2 st fs T s u C))) = true from h)
  obtain ⟨l1, q3, q4⟩ := klK_ok q2 h1
  obtain ⟨q5, q6⟩ := lsetK_eq _ _ _ _ q4
  rcases h1.get j with ⟨m, h8, h9⟩ | ⟨-, h9⟩
  · obtain ⟨a, rfl, h10⟩ := un2_ok q1 h9
    rw [show fadd a z = wI (a + z) from fadd_eq a z] at h10
    exact s_iinc S.row.1 h8 rfl (S.next q6 ρ _ st2 fs2 _ hC (q3.set j h10) h2 h3 h4)
  · rw [h9] at q1
    cases q1
theorem isN_cls {kc : Nat} (h : kc < 20) : isN kc = false := by
  unfold isN
  have e : ∀ n, 20 ≤ n → Nat.beq kc n = false := fun n hn => by
    cases q : Nat.beq kc n with
    | false => rfl
    | true => rw [beq_iff] at q; omega
  rw [e 20 (by omega), e 21 (by omega), e 23 (by omega)]
  rfl
theorem o_get {idx : Nat} (S : STP go k n (pc, .getfield idx, len, a1, a2, a3) r) (hl : len = 3) (hp : pool (mcls k) idx = some (a1, a2, a3)) (hk20 : a2 < 20) (hg : 1 ≤ a1 ∧ a1 ≤ 3) (h : x_get go (pc, .getfield idx, len, a1, a2, a3) D k (ops k) r ls st fs T s u C = true) : SemAt D k pc ls st fs T s u C := by
  subst hl
  intro ρ ls2 st2 fs2 M hC h1 h2 h3 h4
  obtain ⟨s0, u0, K, R, I⟩ := M
  unfold x_get at h
  split at h
  · rename_i a t0
    obtain ⟨m, t2, rfl, h7, h8⟩ := h2.cons
    cases (show m = vr a from h7)
    split at h
    · rename_i kc kn F A ho
      rw [q7_eq] at ho
      obtain ⟨w1, w2, w3⟩ := h4.2.2 a _ ho
      cases hc : (Nat.beq kc a2 && Nat.beq kn 0) with
      | false => rw [show (Nat.beq kc (pc, Instr.getfield idx, 3, a1, a2, a3).2.2.2.2.1 && Nat.beq kn 0) = false from hc] at h; cases h
      | true =>
        rw [show (Nat.beq kc (pc, Instr.getfield idx, 3, a1, a2, a3).2.2.2.2.1 && Nat.beq kn 0) = true from hc, cond_true] at h
        rw [Bool.and_eq_true, beq_iff, beq_iff] at hc
        obtain ⟨rfl, rfl⟩ := hc
        have hka : K a = (kc, 0) := w2
        have hce : CE ρ kc F A a3 (I a a3) (R a a3) := w3 a3 (Or.inl hk20)
        have hin := isN_cls hk20
        have hg12 : Nat.beq a1 3 = false → a1 = 1 ∨ a1 = 2 := fun hg3 => by
          rcases (by omega : a1 = 1 ∨ a1 = 2 ∨ a1 = 3) with h9 | h9 | h9
          · exact Or.inl h9
          · exact Or.inr h9
          · subst h9; cases hg3
        split at h
        · rename_i w hw
          have hf := hce.fld hin hw
          cases hg3 : Nat.beq a1 3 with
          | true =>
            rw [show Nat.beq (pc, Instr.getfield idx, 3, a1, kc, a3).2.2.2.1 3 = true from hg3, cond_true] at h
            rw [beq_iff] at hg3
            subst hg3
            cases ht : Nat.beq (ty w) 2 with
            | false => rw [ht] at h; cases h
            | true =>
              rw [ht, cond_true] at h
              exact s_getQ S.row.1 hp hka rfl (S.next h ρ ls2 (vq (R a a3) :: t2) fs2 _ hC h1 ⟨hf.2 (beq_iff.mp ht), h8⟩ h3 h4)
          | false =>
            rw [show Nat.beq (pc, Instr.getfield idx, 3, a1, kc, a3).2.2.2.1 3 = false from hg3, cond_false] at h
            cases ht : Nat.beq (ty w) 0 with
            | false => rw [ht] at h; cases h
            | true =>
              rw [ht, cond_true] at h
              have hnx := S.next h ρ ls2 (vi (I a a3) :: t2) fs2 _ hC h1 ⟨hf.1 (beq_iff.mp ht), h8⟩ h3 h4
              rcases hg12 hg3 with rfl | rfl
              · exact s_getI S.row.1 hp hka rfl hnx
              · exact s_getZ S.row.1 hp hka rfl hnx
        · rename_i hw
          obtain ⟨hx, hq⟩ := (hce.2 hin).1 hw
          cases hg3 : Nat.beq a1 3 with
          | true =>
            rw [show Nat.beq (pc, Instr.getfield idx, 3, a1, kc, a3).2.2.2.1 3 = true from hg3, cond_true] at h
            rw [beq_iff] at hg3
            subst hg3
            exact s_getQ S.row.1 hp hka hq (S.next h ρ ls2 (vn :: t2) fs2 _ hC h1 ⟨rfl, h8⟩ h3 h4)
          | false =>
            rw [show Nat.beq (pc, Instr.getfield idx, 3, a1, kc, a3).2.2.2.1 3 = false from hg3, cond_false] at h
            have hnx := S.next h ρ ls2 (vi 0 :: t2) fs2 _ hC h1 ⟨rfl, h8⟩ h3 h4
            rcases hg12 hg3 with rfl | rfl
            · exact s_getI S.row.1 hp hka hx hnx
            · exact s_getZ S.row.1 hp hka hx hnx
    · cases h
  · cases h
end
