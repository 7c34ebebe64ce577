/-! rows of calls and branches -/
def wr (x : Int) : Int := if 127 < x.tmod 255 then x.tmod 255 - 255 else if x.tmod 255 < -127 then x.tmod 255 + 255 else x.tmod 255
theorem tm_bd (x : Int) : -255 < x.tmod 255 ∧ x.tmod 255 < 255 := by
  have h1 : x.tmod 255 < 255 := Int.tmod_lt_of_pos x (by decide)
  have h2 : -255 < x.tmod 255 := by
    have := Int.tmod_lt_of_pos (-x) (show (0 : Int) < 255 by decide)
    rw [Int.neg_tmod] at this
    omega
  exact ⟨h2, h1⟩
theorem wr_bd (x : Int) : -127 ≤ wr x ∧ wr x ≤ 127 := by
  have := tm_bd x
  unfold wr
  split
  · omega
  · split <;> omega
theorem ltB_f {x y : Int} : ltB x y = false ↔ ¬ x < y := by
  rw [← ltB_iff]; cases ltB x y <;> simp
theorem ncd_ok {c : Jvm.ClassFile.Cond} {a b : Int} (h : ¬ cmI c a b) : cmI (ncd c) a b := by
  cases c <;> simp only [cmI, ncd] at h ⊢ <;> omega
theorem chkL_drop {k : Nat} {cc : List OE} : ∀ (l : List OE) (n : Nat) {e : OE} {r : List OE}, chkL k cc l = true → l.drop n = e :: r → rowB k e r cc = true
  | [], n, e, r, _, h => by rw [List.drop_nil] at h; cases h
  | a :: l, 0, e, r, h, h2 => by
    cases h2
    unfold chkL at h
    rw [Bool.and_eq_true] at h
    exact h.1
  | a :: l, n + 1, e, r, h, h2 => by
    unfold chkL at h
    rw [Bool.and_eq_true] at h
    exact chkL_drop l n h.2 h2
theorem mt_at {y : Nat} {row : List OE × Nat × Nat} (hy : y < nT) (h : bget 9 mtT y = some row) : row.1 = ops y ∧ row.2.1 = mmaxl y ∧ row.2.2 = mcls y ∧ (∀ e r, ops y = e :: r → e.1 = 0) := by
  have hc := chk_all y hy
  unfold ckT at hc
  rw [h] at hc
  have ho : ops y = row.1 := by unfold ops; rw [h]
  obtain ⟨l, ml, c⟩ := row
  simp only [Bool.and_eq_true] at hc
  refine ⟨ho.symm, (beq_iff.mp hc.2.1), (beq_iff.mp hc.2.2.1), fun e r h2 => ?_⟩
  have h3 := hc.2.2.2
  rw [ho] at h2
  rw [show l = e :: r from h2] at h3
  exact beq_iff.mp h3
theorem row_at {k n : Nat} {e : OE} {r : List OE} (hk : k < nT) (h : (ops k).drop n = e :: r) : rowB k e r (ops k) = true := by
  have hc := chk_all k hk
  unfold ckT at hc
  cases hq : bget 9 mtT k with
  | none =>
    have : ops k = [] := by unfold ops; rw [hq]
    rw [this, List.drop_nil] at h
    cases h
  | some row =>
    rw [hq] at hc
    have ho : ops k = row.1 := by unfold ops; rw [hq]
    obtain ⟨l, ml, c⟩ := row
    simp only [Bool.and_eq_true] at hc
    rw [ho] at h ⊢
    exact chkL_drop l n hc.1 h
theorem g_inv {d k pc idx y n a : Nat} {ls t as : List MV} {M : MM} {Q Q1 : Option MV → MM → Prop} (hd : decode (mcode k) pc = .ok (.invokevirtual idx, 3)) (hp : pool (mcls k) idx = some (4, y, n)) (hl : as.length = n) (ha : M.2.2.1 a = (mcls y, 0)) (hs : mstat y = false) (hn : ((mname y).name == "<init>") = false) (hw : wds t ≤ 8) (hm : Rm d y (vr a :: as) M Q1) (kk : ∀ r M1, Q1 r M1 → Wm d k (pc + 3) ls (r.toList ++ t) M1 Q) : Wm d k pc ls (as.reverse ++ (vr a :: t)) M Q := by
  obtain ⟨r, M1, hr, q⟩ := hm
  obtain ⟨n9, r2, M2, h, q2⟩ := kk r M1 q
  exact ⟨n9 + 1, r2, M2, ⟨⟨Nat.le_trans hr.mono.1 h.mono.1, Nat.le_trans hr.mono.2 h.mono.2⟩, _, _, hd, Or.inr ⟨rfl, y, n, as, a, t, r, M1, hp, rfl, hl, ha, hs, hn, hw, hr, h⟩⟩, q2⟩
theorem g_sta {d k pc idx y n : Nat} {ls t as : List MV} {M : MM} {Q Q1 : Option MV → MM → Prop} (hd : decode (mcode k) pc = .ok (.invokestatic idx, 3)) (hp : pool (mcls k) idx = some (4, y, n)) (hl : as.length = n) (hs : mstat y = true) (hw : wds t ≤ 8) (hm : Rm d y as M Q1) (kk : ∀ r M1, Q1 r M1 → Wm d k (pc + 3) ls (r.toList ++ t) M1 Q) : Wm d k pc ls (as.reverse ++ t) M Q := by
  obtain ⟨r, M1, hr, q⟩ := hm
  obtain ⟨n9, r2, M2, h, q2⟩ := kk r M1 q
  exact ⟨n9 + 1, r2, M2, ⟨⟨Nat.le_trans hr.mono.1 h.mono.1, Nat.le_trans hr.mono.2 h.mono.2⟩, _, _, hd, Or.inr ⟨rfl, Or.inl ⟨y, n, as, t, r, M1, hp, rfl, hl, hs, hw, hr, h⟩⟩⟩, q2⟩
theorem inB_ok {n : Int} (h : inB n = true) : inI n := by
  unfold inB at h
  rw [Bool.and_eq_true, Bool.not_eq_true', ltB_f, ltB_iff] at h
  unfold inI
  omega
def gM (t : Nat) (m : MV) : Prop := (t = 0 ∧ ∃ x, m = vi x) ∨ (t = 1 ∧ ∃ x, m = vl x) ∨ (t = 2 ∧ ∃ a, m = vr a)
theorem g_icmp {d k pc tgt : Nat} {ls t : List MV} {M : MM} {Q : Option MV → MM → Prop} {c : Jvm.ClassFile.Cond} {off x y : Int} (hd : decode (mcode k) pc = .ok (.if_icmp c off, 3)) (ht : (pc : Int) + off = (tgt : Int)) (kk : (cmI c x y ∧ Wm d k tgt ls t M Q) ∨ (¬ cmI c x y ∧ Wm d k (pc + 3) ls t M Q)) : Wm d k pc ls (vi y :: vi x :: t) M Q := by
  rcases kk with ⟨hc, n, r, M2, h, q⟩ | ⟨hc, n, r, M2, h, q⟩
  · exact ⟨n + 1, r, M2, ⟨h.mono, _, _, hd, Or.inr ⟨rfl, x, y, t, rfl, tgt, ht, fun _ => h, fun h2 => absurd hc h2⟩⟩, q⟩
  · exact ⟨n + 1, r, M2, ⟨h.mono, _, _, hd, Or.inr ⟨rfl, x, y, t, rfl, tgt, ht, fun h2 => absurd h2 hc, fun _ => h⟩⟩, q⟩
theorem g_if {d k pc tgt : Nat} {ls t : List MV} {M : MM} {Q : Option MV → MM → Prop} {c : Jvm.ClassFile.Cond} {off x : Int} (hd : decode (mcode k) pc = .ok (.ifCond c off, 3)) (ht : (pc : Int) + off = (tgt : Int)) (kk : (cmI c x 0 ∧ Wm d k tgt ls t M Q) ∨ (¬ cmI c x 0 ∧ Wm d k (pc + 3) ls t M Q)) : Wm d k pc ls (vi x :: t) M Q := by
  rcases kk with ⟨hc, n, r, M2, h, q⟩ | ⟨hc, n, r, M2, h, q⟩
  · exact ⟨n + 1, r, M2, ⟨h.mono, _, _, hd, Or.inr ⟨rfl, x, t, rfl, tgt, ht, fun _ => h, fun h2 => absurd hc h2⟩⟩, q⟩
  · exact ⟨n + 1, r, M2, ⟨h.mono, _, _, hd, Or.inr ⟨rfl, x, t, rfl, tgt, ht, fun h2 => absurd h2 hc, fun _ => h⟩⟩, q⟩
theorem bb2 {a b : Bool} (h : (a && b) = true) : a = true ∧ b = true := by rw [Bool.and_eq_true] at h; exact h
theorem oi32 (x : Int32) : -2147483648 ≤ x.toInt ∧ x.toInt ≤ 2147483647 := by
  have h1 := Int32.le_toInt x
  have h2 := Int32.toInt_lt x
  omega
