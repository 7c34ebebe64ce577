/-! the class: types of its heap -/
def Yl : List TYE := [(99, 0, [], []), (2, 0, [(0, 1, 2, 12), (1, 2, 2, 12)], [(2, 3, 2, false), (3, 4, 3, false), (4, 5, 4, false), (5, 6, 5, false)]), (20, 144, [(0, 144, -127, 127)], []), (20, 144, [(0, 144, 0, 99)], []), (21, 144, [(0, 144, 0, 1)], []), (21, 288, [(0, 288, 0, 1)], []), (4, 0, [(0, 1, 0, 121), (1, 2, -2147483648, 2147483647)], [(2, 3, 7, false), (3, 4, 8, false), (4, 5, 9, false)]), (20, 121, [(0, 121, 0, 143)], []), (20, 121, [(0, 121, -1, 143)], []), (20, 288, [(0, 288, -2147483648, 2147483647)], []), (5, 0, [(0, 1, 0, 1), (1, 2, -2147483648, 2147483647), (2, 3, -2147483648, 2147483647), (3, 4, 0, 144)], [(4, 5, 11, false), (5, 6, 12, false), (6, 7, 13, false), (7, 8, 14, false), (8, 9, 15, false), (9, 10, 16, false)]), (20, 144, [(0, 144, -2147483648, 2147483647)], []), (20, 144, [(0, 144, -1, 143)], []), (20, 144, [(0, 144, -1, 143)], []), (20, 144, [(0, 144, -2147483648, 2147483647)], []), (20, 144, [(0, 144, 0, 143)], []), (20, 144, [(0, 144, -2147483648, 2147483647)], []), (6, 0, [(0, 1, 0, 1000000)], [(1, 2, 18, false)]), (20, 180, [(0, 180, -2147483648, 2147483647)], []), (9, 0, [(0, 1, 0, 400), (1, 2, -2147483648, 2147483647), (2, 3, -2147483648, 2147483647)], [(3, 4, 20, false)]), (20, 400, [(0, 400, 0, 255)], []), (7, 0, [(0, 1, 0, 121)], [(1, 2, 22, false), (2, 3, 23, false), (3, 4, 24, false), (4, 5, 25, false)]), (20, 121, [(0, 121, 0, 143)], []), (20, 121, [(0, 121, -2147483648, 2147483647)], []), (20, 121, [(0, 121, -2, 120)], []), (20, 4096, [(0, 4096, -2147483648, 2147483647)], []), (3, 0, [(4, 5, 0, 144)], [(0, 1, 27, false), (1, 2, 28, false), (2, 3, 29, false), (3, 4, 30, false)]), (21, 288, [(0, 288, 0, 1)], []), (20, 144, [(0, 144, -1, 143)], []), (20, 144, [(0, 144, 0, 99)], []), (20, 144, [(0, 144, 0, 143)], []), (8, 0, [(0, 1, -2147483648, 2147483647), (1, 2, -2147483648, 2147483647), (2, 3, 0, 288)], [(3, 4, 32, false), (4, 5, 33, false), (5, 6, 34, false)]), (20, 288, [(0, 288, 0, 20735)], []), (20, 288, [(0, 288, -2147483648, 2147483647)], []), (20, 144, [(0, 144, 0, 143)], []), (1, 0, [(0, 1, -2147483648, 2147483647), (1, 2, -2147483648, 2147483647), (2, 3, -1, 143), (5, 6, 0, 144)], [(3, 4, 36, false), (4, 5, 37, false)]), (21, 144, [(0, 144, 0, 1)], []), (20, 144, [(0, 144, 0, 143)], []), (10, 0, [], [(0, 1, 1, false), (1, 2, 6, false), (2, 3, 10, false)])]
def Yt (τ : Nat) : TYE := Yl.getD τ (99, 0, [], [])
/-- 5 how many pixels the chart has, 2 one of its pixels -/
def P5 (l : List MV) (Γ : Nat → Nat) (M : MM) : Prop := match l with
  | [.inr (.inr (some a)), .inl x] => Γ a = 1 ∧ x = M.2.2.2.2 a 0 * M.2.2.2.2 a 1
  | _ => False
def P2 (l : List MV) (Γ : Nat → Nat) (M : MM) : Prop := match l with
  | [.inr (.inr (some a)), .inl x] => Γ a = 1 ∧ 0 ≤ x ∧ x < M.2.2.2.2 a 0 * M.2.2.2.2 a 1
  | _ => False
def PSt : PST := fun id l Γ M => match id with
  | 5 => P5 l Γ M
  | 2 => P2 l Γ M
  | _ => True
def dept : Nat → List EF := fun id => match id with
  | 5 => [(1, 0, 2)]
  | 2 => [(1, 0, 2)]
  | _ => []
theorem PSt_cells {Γ Γ2 : Nat → Nat} {M M2 : MM} {E : List EF} (hT : HTy Yt Γ M) (hF : FRM E Γ M M2) (hG : GEX M.1 Γ Γ2) (hE : ∀ e ∈ E, efDis e (1, 0, 2) = true) {a : Nat} (ha : Γ a = 1) : Γ2 a = 1 ∧ M2.2.2.2.2 a 0 = M.2.2.2.2 a 0 ∧ M2.2.2.2.2 a 1 = M.2.2.2.2 a 1 := by
  have hl := (hT a (by rw [ha]; decide)).1
  have hc : ∀ j, j < 2 → M2.2.2.2.2 a j = M.2.2.2.2 a j := fun j hj => ((hF.2 a hl).2 j (fun e he h1 h2 h3 => by
    exfalso
    have := hE e he
    unfold efDis at this
    rw [Bool.or_eq_true, Bool.or_eq_true, Bool.not_eq_true', ble_iff, ble_iff] at this
    rcases this with this | this | this
    · rw [beq_iff.mpr (show e.1 = 1 by rw [← h1, ha])] at this; cases this
    · have this : e.2.2 ≤ 0 := this
      omega
    · have this : 2 ≤ e.2.1 := this
      omega)).1
  exact ⟨(hG a hl).trans ha, hc 0 (by decide), hc 1 (by decide)⟩
theorem PSt_ok : PSok Yt PSt dept := by
  intro id l Γ Γ2 M M2 E h1 _ h3 h4 h5 h6
  match id, h5, h6 with
  | 0, _, _ => trivial
  | 1, _, _ => trivial
  | 2, h5, h6 =>
    have h6 : P2 l Γ M := h6
    show P2 l Γ2 M2
    unfold P2 at h6 ⊢
    split at h6
    · obtain ⟨q1, q2, q3⟩ := PSt_cells h1 h3 h4 (fun e he => h5 (1, 0, 2) List.mem_cons_self e he) h6.1
      exact ⟨q1, h6.2.1, by rw [q2, q3]; exact h6.2.2⟩
    · exact h6.elim
  | 3, _, _ => trivial
  | 4, _, _ => trivial
  | 5, h5, h6 =>
    have h6 : P5 l Γ M := h6
    show P5 l Γ2 M2
    unfold P5 at h6 ⊢
    split at h6
    · obtain ⟨q1, q2, q3⟩ := PSt_cells h1 h3 h4 (fun e he => h5 (1, 0, 2) List.mem_cons_self e he) h6.1
      exact ⟨q1, by rw [q2, q3]; exact h6.2⟩
    · exact h6.elim
  | n + 6, _, _ => trivial
theorem PSt_br : PSbr PSt := by
  intro a x y Γ M h h0 h1
  match a, h with
  | .inr (.inr (some a)), h =>
    have h : Γ a = 1 ∧ y = M.2.2.2.2 a 0 * M.2.2.2.2 a 1 := h
    exact ⟨h.1, h0, by rw [← h.2]; exact h1⟩
  | .inl _, h => exact (show False from h).elim
  | .inr (.inl _), h => exact (show False from h).elim
  | .inr (.inr none), h => exact (show False from h).elim
def tVac : KT := ((0, 0, 0, 0), [], [(1, 0)], [], (0, 0, 0), [], [], ([], []), ([], []))
theorem vac_ok (Y : Nat → TYE) (PS : PST) : KOK Y PS tVac := by
  intro d ρ α Γ M as _ _ hB _ _
  have := hB 0
  have h : (1 : Int) ≤ ρ 0 ∧ ρ 0 ≤ 0 := this
  omega
def anOf (l : List (Nat × KT)) (n : Nat) : KT := match l with
  | [] => tVac
  | q :: r => cond (Nat.beq q.1 n) q.2 (anOf r n)
def anAll : List (Nat × KT) → Prop
  | [] => True
  | q :: r => KOK Yt PSt q.2 ∧ anAll r
theorem anOf_ok : ∀ {l : List (Nat × KT)}, anAll l → ∀ n, KOK Yt PSt (anOf l n)
  | [], _, _ => vac_ok _ _
  | q :: r, h, n => by
    show KOK Yt PSt (cond (Nat.beq q.1 n) q.2 (anOf r n))
    cases Nat.beq q.1 n with
    | true => exact h.1
    | false => exact anOf_ok h.2 n
def t_k10 : KT := ((10, 1, 0, 0), [(2, 0, 1, 0)], [(0, 0)], [], (1, 4, 144), [], [(5, [(2, 0, 1, 0), (1, 1, 0, 0)])], ([], []), ([], []))
theorem k_k10 : KOK Yt PSt t_k10 := by
  intro d ρ α Γ M as hd hT hB hA _
  obtain ⟨m, t, rfl, h1, h2⟩ := ARs.cons (show ARs ρ α Γ [(2, 0, 1, 0)] as from hA)
  cases h2.nil
  obtain ⟨rfl, g1, g2⟩ := h1.ref rfl
  have g1 : Γ (α 0) = 1 := g1
  cases d with
  | zero => exact absurd hd (by decide)
  | succ d =>
    have hK := (hT (α 0) (by rw [g1]; decide)).2
    rw [g1] at hK
    have b0 := hK.2.1 (0, 1, 2, 12) (by decide) 0 (Nat.le_refl _) (by decide)
    have b1 := hK.2.1 (1, 2, 2, 12) (by decide) 1 (Nat.le_refl _) (by decide)
    have l1 : 2 * 2 ≤ M.2.2.2.2 (α 0) 0 * M.2.2.2.2 (α 0) 1 := Int.mul_le_mul b0.1 b1.1 (by decide) (Int.le_trans (by decide) b0.1)
    have l2 : M.2.2.2.2 (α 0) 0 * M.2.2.2.2 (α 0) 1 ≤ 12 * 12 := Int.mul_le_mul b0.2 b1.2 (Int.le_trans (by decide) b1.1) (by decide)
    have hw : wI (M.2.2.2.2 (α 0) 0 * M.2.2.2.2 (α 0) 1) = M.2.2.2.2 (α 0) 0 * M.2.2.2.2 (α 0) 1 := wI_id (by unfold inI; omega)
    refine Rm.of [vr (α 0)] (eq_true (show 1 ≤ mmaxl 10 by decide +kernel)) rfl ?_
    obtain ⟨s0, u0, K, R, I⟩ := M
    refine s_aload_n (i := 0) (show decode (mcode 10) 0 = _ by decide +kernel) rfl ?_
    refine s_getI (idx := 29) (c := 2) (j := 0) (show decode (mcode 10) 1 = _ by decide +kernel) (show pool (mcls 10) 29 = _ by decide +kernel) hK.1 rfl ?_
    refine s_aload_n (i := 0) (show decode (mcode 10) 4 = _ by decide +kernel) rfl ?_
    refine s_getI (idx := 33) (c := 2) (j := 1) (show decode (mcode 10) 5 = _ by decide +kernel) (show pool (mcls 10) 33 = _ by decide +kernel) hK.1 rfl ?_
    refine s_imul (show decode (mcode 10) 8 = _ by decide +kernel) ?_
    refine s_iret (show decode (mcode 10) 9 = _ by decide +kernel) (show mret 10 = _ by decide +kernel) ?_
    refine ⟨Γ, hT, FRM.refl _ _ _, fun _ _ => rfl, Nat.le_refl _, Nat.le_refl _, _, rfl, ?_, ?_, ?_⟩
    · show 4 ≤ wI _
      rw [hw]
      exact l1
    · show wI _ ≤ 144
      rw [hw]
      exact l2
    · intro p hp
      cases List.mem_singleton.mp hp
      show Γ (α 0) = 1 ∧ (wI (I (α 0) 0 * I (α 0) 1)) + 0 = I (α 0) 0 * I (α 0) 1
      rw [show wI (I (α 0) 0 * I (α 0) 1) = I (α 0) 0 * I (α 0) 1 from hw, Int.add_zero]
      exact ⟨g1, rfl⟩
