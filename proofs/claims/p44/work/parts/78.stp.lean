/-! THE CHECKER: ends, and all instructions -/
/-- 0 the arguments as they came, 1 what the measure began with -/
def gPS (g0 g1 : List MV) (PS : PST) : PST := fun id l Γ M => match id with
  | 0 => l = g0
  | 1 => l = g1
  | _ => PS id l Γ M
def gDep (dep : Nat → List EF) : Nat → List EF := fun id => match id with
  | 0 => []
  | 1 => []
  | _ => dep id
theorem gPS_ok {Y : Nat → TYE} {PS : PST} {dep : Nat → List EF} (h : PSok Y PS dep) (g0 g1 : List MV) : PSok Y (gPS g0 g1 PS) (gDep dep) := by
  intro id l Γ Γ2 M M2 E h0 h1 h2 h3 h4 h5 h6
  match id, h0, h5, h6 with
  | 0, _, _, h6 => exact h6
  | 1, _, _, h6 => exact h6
  | id + 2, h0, h5, h6 => exact h (id + 2) l Γ Γ2 M M2 E h0 h1 h2 h3 h4 h5 h6
def PSax (Y : Nat → TYE) (PS : PST) : Prop := PSbr PS ∧ PSfr PS ∧ PSw PS ∧ PSho PS ∧ PSty Y PS ∧ PSdf PS
theorem gPSfr {PS : PST} (h : PSfr PS) (g0 g1 : List MV) : PSfr (gPS g0 g1 PS) := fun τ j a lo hi Γ M hj q => h τ j a lo hi Γ M hj (by
  have e : gPS g0 g1 PS (fId τ j) [vr a, vi lo, vi hi] Γ M = PS (fId τ j) [vr a, vi lo, vi hi] Γ M := by
    unfold fId
    rw [show 1000 + 64 * τ + j = (998 + 64 * τ + j) + 2 by omega]
    rfl
  rw [← e]
  exact q)
theorem gPSfw {PS : PST} (h : PSfw PS) (g0 g1 : List MV) : PSfw (gPS g0 g1 PS) := fun τ j a lo hi Γ M hj q1 q2 q3 q4 => by
  have e : gPS g0 g1 PS (fId τ j) [vr a, vi lo, vi hi] Γ M = PS (fId τ j) [vr a, vi lo, vi hi] Γ M := by
    unfold fId
    rw [show 1000 + 64 * τ + j = (998 + 64 * τ + j) + 2 by omega]
    rfl
  rw [e]
  exact h τ j a lo hi Γ M hj q1 q2 q3 q4
theorem gPSw {PS : PST} (h : PSw PS) (g0 g1 : List MV) : PSw (gPS g0 g1 PS) := ⟨gPSfw h.1 g0 g1, fun a i x Γ M h1 h2 => h.2.1 a i x Γ M h1 h2, fun a b i Γ M h1 h2 => h.2.2 a b i Γ M h1 h2⟩
theorem gPSty {Y : Nat → TYE} {PS : PST} (h : PSty Y PS) (g0 g1 : List MV) : PSty Y (gPS g0 g1 PS) := fun τ i x Γ M => h τ i x Γ M
theorem gPSdf {PS : PST} (h : PSdf PS) (g0 g1 : List MV) : PSdf (gPS g0 g1 PS) := ⟨⟨fun a b n Γ M q hne => by
  have h2 : 2 ≤ cpN (Γ a) (Γ b) := (cpN_2 _ _).resolve_left hne
  have z := h.1.1 a b n Γ M q hne
  generalize cpN (Γ a) (Γ b) = w at h2 z ⊢
  match w, h2, z with
  | w + 2, _, z => exact z, fun x Γ M => h.1.2.1 x Γ M, fun x y Γ M => h.1.2.2 x y Γ M⟩, fun x y Γ M => h.2 x y Γ M⟩
theorem gPSho {PS : PST} (h : PSho PS) (g0 g1 : List MV) : PSho (gPS g0 g1 PS) := fun id a l i x Γ s u K R I h1 h2 h3 => by
  match id, h1, h3 with
  | 0, h1, _ => exact absurd (show vi i ∈ l.take 0 from h1) (by rw [List.take_zero]; exact List.not_mem_nil)
  | 1, h1, _ => exact absurd (show vi i ∈ l.take 0 from h1) (by rw [List.take_zero]; exact List.not_mem_nil)
  | id + 2, h1, h3 => exact h (id + 2) a l i x Γ s u K R I h1 h2 h3
theorem gPSbr {PS : PST} (h : PSbr PS) (g0 g1 : List MV) : PSbr (gPS g0 g1 PS) := ⟨fun a x y Γ M h1 h2 h3 => h.1 a x y Γ M h1 h2 h3, fun x y Γ M h1 => h.2.1 x y Γ M h1, fun x y Γ M h1 => h.2.2.1 x y Γ M h1, fun x y Γ M h1 => h.2.2.2 x y Γ M h1⟩
def ids2 (ps : List PFE) : Bool := ps.all fun p => Nat.ble 2 p.1
theorem gPFs {PS : PST} {g0 g1 : List MV} {ρ : Nat → Int} {α Γ : Nat → Nat} {M : MM} {ps : List PFE} (h : ids2 ps = true) : PFs (gPS g0 g1 PS) ρ α Γ M ps ↔ PFs PS ρ α Γ M ps := by
  unfold ids2 at h
  rw [List.all_eq_true] at h
  have e : ∀ p ∈ ps, gPS g0 g1 PS p.1 (p.2.map (valO ρ α)) Γ M ↔ PS p.1 (p.2.map (valO ρ α)) Γ M := by
    intro p hp
    have := ble_iff.mp (h p hp)
    obtain ⟨id, l⟩ := p
    match id, this with
    | 0, h => exact absurd (show 2 ≤ 0 from h) (by decide)
    | 1, h => exact absurd (show 2 ≤ 1 from h) (by decide)
    | id + 2, _ => exact Iff.rfl
  exact ⟨fun q p hp => (e p hp).mp (q p hp), fun q p hp => (e p hp).mpr (q p hp)⟩
def idsK (t : KT) : Bool := (ids2 (kPre t) && ids2 (kPost t)) && (ids2 (kT t).2 && ids2 (kF t).2)
theorem RESok_imp {PS PS2 : PST} {t : KT} {ρ : Nat → Int} {α Γ : Nat → Nat} {M : MM} {r : Option MV} (h1 : ∀ ρ, PFs PS ρ α Γ M (kPost t) → PFs PS2 ρ α Γ M (kPost t)) (h2 : ∀ ρ, PFs PS ρ α Γ M (kT t).2 → PFs PS2 ρ α Γ M (kT t).2) (h3 : ∀ ρ, PFs PS ρ α Γ M (kF t).2 → PFs PS2 ρ α Γ M (kF t).2) (h : RESok PS t ρ α Γ M r) : RESok PS2 t ρ α Γ M r := by
  unfold RESok at h ⊢
  split at h
  · exact ⟨h.1, h1 _ h.2⟩
  · obtain ⟨x, a, b, c, q⟩ := h
    exact ⟨x, a, b, c, h1 _ q⟩
  · rcases h with ⟨a, b, c⟩ | ⟨a, b, c⟩
    · exact Or.inl ⟨a, b, h2 _ c⟩
    · exact Or.inr ⟨a, b, h3 _ c⟩
  · exact h
theorem gKOK {Y : Nat → TYE} {PS : PST} {t : KT} (h : KOK Y PS t) (hi : idsK t = true) (g0 g1 : List MV) : KOK Y (gPS g0 g1 PS) t := by
  obtain ⟨i1, i2⟩ := bb2 hi
  obtain ⟨i1, i3⟩ := bb2 i1
  obtain ⟨i2, i4⟩ := bb2 i2
  intro d ρ α Γ M as gs h0 h1 h2 h3 h4 h5
  refine (h d ρ α Γ M as gs h0 h1 h2 h3 h4 ((gPFs i1).mp h5)).imp fun r M2 q => ?_
  obtain ⟨Γ2, a, b, c, e, f, g⟩ := q
  exact ⟨Γ2, a, b, c, e, f, RESok_imp (fun _ => (gPFs i3).mpr) (fun _ => (gPFs i2).mpr) (fun _ => (gPFs i4).mpr) g⟩
theorem gLOK {Y : Nat → TYE} {PS : PST} {t : KT} (h : LOK Y PS t) (hi : idsL t = true) (g0 g1 : List MV) : LOK Y (gPS g0 g1 PS) t := by
  obtain ⟨i1, i2⟩ := bb2 hi
  intro ρ α Γ M as h2 h3 h4 h5
  have q := h ρ α Γ M as h2 h3 h4 ((gPFs i1).mp h5)
  exact ⟨q.1, (gPFs i2).mpr q.2⟩
/-! ends -/
def kaB : Nat → List AV → Bool
  | _, [] => true
  | i, a :: as => (Nat.beq a.1 4 || ((Nat.beq a.1 1 && Nat.beq a.2.1 i) && eqB a.2.2.2 0) || (Nat.beq a.1 2 && Nat.beq a.2.1 i)) && kaB (i + 1) as
theorem kaB_at : ∀ {as : List AV} {i j : Nat} {a : AV}, kaB i as = true → as[j]? = some a → a.1 = 4 ∨ (a.1 = 1 ∧ a.2.1 = i + j ∧ a.2.2.2 = 0) ∨ (a.1 = 2 ∧ a.2.1 = i + j)
  | [], _, _, _, _, h => by cases h
  | b :: as, i, 0, a, h, h2 => by
    cases h2
    obtain ⟨h1, -⟩ := bb2 (show ((Nat.beq b.1 4 || ((Nat.beq b.1 1 && Nat.beq b.2.1 i) && eqB b.2.2.2 0) || (Nat.beq b.1 2 && Nat.beq b.2.1 i)) && kaB (i + 1) as) = true from h)
    rw [Bool.or_eq_true, Bool.or_eq_true, Bool.and_eq_true, Bool.and_eq_true, Bool.and_eq_true] at h1
    simp only [beq_iff, eqB_iff] at h1
    rcases h1 with (h1 | h1) | h1
    · exact Or.inl h1
    · exact Or.inr (Or.inl ⟨h1.1.1, h1.1.2, h1.2⟩)
    · exact Or.inr (Or.inr h1)
  | b :: as, i, j + 1, a, h, h2 => by
    have := kaB_at (as := as) (i := i + 1) (j := j) (bb2 h).2 h2
    rw [show i + 1 + j = i + (j + 1) by omega] at this
    exact this
theorem LK_g {ρ : Nat → Int} {α : Nat → Nat} {ρ0 : Nat → Int} {α0 : Nat → Nat} {gl ka : List AV} {g0 : List MV} (hg : gl.map (valO ρ α) = g0) (hk : kaB 0 ka = true) (ha : g0 = ka.map (valO ρ0 α0)) (hl : gl.length = ka.length) : LK ρ α ρ0 α0 gl := by
  intro i u hu
  have hi : i < gl.length := by
    by_cases h : i < gl.length
    · exact h
    · rw [List.getElem?_eq_none (by omega)] at hu; cases hu
  have h1 : g0[i]? = some (valO ρ α u) := by rw [← hg, List.getElem?_map, hu]; rfl
  have h2 : ka[i]? = some ka[i] := List.getElem?_eq_getElem (by omega)
  have h3 : g0[i]? = some (valO ρ0 α0 ka[i]) := by rw [ha, List.getElem?_map, h2]; rfl
  rw [h1] at h3
  have h4 := Option.some.inj h3
  generalize ka[i] = a at h2 h4
  have h5 := kaB_at hk h2
  obtain ⟨t, j, τ, c⟩ := a
  rcases h5 with h5 | ⟨h5, h6, h7⟩ | ⟨h5, h6⟩
  · have h5 : t = 4 := h5
    subst h5
    have h4 : valO ρ α u = vn := h4
    constructor
    · intro hI
      rw [valO_int hI] at h4
      cases h4
    · intro hI
      unfold valO at h4
      rw [hI] at h4
      cases h4
  · have h5 : t = 1 := h5
    have h6j : j = 0 + i := h6
    have h7 : c = 0 := h7
    subst h5
    subst h7
    have h4 : valO ρ α u = vi (ρ0 j + 0) := h4
    rw [h6j, Nat.zero_add, Int.add_zero] at h4
    constructor
    · intro hI
      rw [valO_int hI] at h4
      exact (Sum.inl.inj h4).symm
    · intro hI
      unfold valO at h4
      rw [hI] at h4
      cases h4
  · have h5 : t = 2 := h5
    have h6j : j = 0 + i := h6
    subst h5
    have h4 : valO ρ α u = vr (α0 j) := h4
    rw [h6j, Nat.zero_add] at h4
    constructor
    · intro hI
      rw [valO_int hI] at h4
      cases h4
    · intro hI
      unfold valO at h4
      rw [hI] at h4
      exact (Option.some.inj (Sum.inr.inj (Sum.inr.inj h4))).symm
def fdG (PF : List PFE) : Option (List AV) := match PF.find? fun p => Nat.beq p.1 0 with
  | some p => some p.2
  | none => none
def cOK (c : CND) (gl : List AV) (C : BC) (MF : List MFE) (PF : List PFE) : Bool := (c.1.all fun b => match gl[b.1]? with
    | some u => isI u && (not (ltB (ivl C u).1 b.2.1) && not (ltB b.2.2 (ivl C u).2))
    | none => false) && (wfP gl aD c.2 && allD C MF (subP gl aD c.2) PF)
def e_ret (t : KT) (w : Option AV) (S : SE) : Bool := (Nat.ble S.2.2.2.2.2.2.1 (kAo t) && Nat.ble S.2.2.2.2.2.2.2 (kAs t)) && (match fdG S.2.2.2.2.2.1 with
  | some gl => (Nat.beq gl.length (kArgs t).length && kaB 0 (kArgs t)) && (match (kRes t).1, w with
    | 0, none => wfP gl aD (kPost t) && allD S.2.2.1 S.2.2.2.2.1 (subP gl aD (kPost t)) S.2.2.2.2.2.1
    | 1, some w => (isI w && (not (ltB (ivl S.2.2.1 w).1 (kRes t).2.1) && not (ltB (kRes t).2.2 (ivl S.2.2.1 w).2))) && (wfP gl w (kPost t) && allD S.2.2.1 S.2.2.2.2.1 (subP gl w (kPost t)) S.2.2.2.2.2.1)
    | 2, some w => (isI w && is01 (ivl S.2.2.1 w)) && ((ltB (ivl S.2.2.1 w).2 1 || cOK (kT t) gl S.2.2.1 S.2.2.2.2.1 S.2.2.2.2.2.1) && (ltB 0 (ivl S.2.2.1 w).1 || cOK (kF t) gl S.2.2.1 S.2.2.2.2.1 S.2.2.2.2.2.1))
    | 3, some w => isL w
    | _, _ => false)
  | none => false)
section
variable {Y : Nat → TYE} {PS : PST} {dep : Nat → List EF} {Γ0 : Nat → Nat} {M0 : MM} {d k : Nat} {go : GE} {n : Nat}
variable {pc len a1 a2 a3 : Nat} {i : Instr} {r : List OE} {S : SE} {t : KT} {g0 g1 : List MV} {ρ0 : Nat → Int} {α0 : Nat → Nat}
theorem cOK_ok (hW : PSw PS) {c : CND} {gl : List AV} {C : BC} {MF : List MFE} {PF : List PFE} {ρ : Nat → Int} {α Γ : Nat → Nat} {M : MM} (hL : LK ρ α ρ0 α0 gl) (hC : BO ρ C) (hi : ids2 c.2 = true) (h : cOK c gl C MF PF = true) (hM : MFs ρ α Γ M MF) (r : PFs (gPS g0 g1 PS) ρ α Γ M PF) : CNDok PS ρ0 α0 Γ M c := by
  obtain ⟨h1, h2⟩ := bb2 h
  obtain ⟨h2, h3⟩ := bb2 h2
  refine ⟨fun b hb => ?_, ?_⟩
  · rw [List.all_eq_true] at h1
    have := h1 b hb
    split at this
    · rename_i u hu
      obtain ⟨q1, q2⟩ := bb2 this
      rw [Bool.and_eq_true, Bool.not_eq_true', Bool.not_eq_true', ltB_f, ltB_f] at q2
      have := ivl_ok hC q1
      rw [(hL b.1 u hu).1 q1]
      omega
    · cases this
  · have q := allD_ok (gPSw hW g0 g1) hC hM h3 r
    have q2 := (subP_ok (PS := gPS g0 g1 PS) (x := ρ0 gl.length) hL (fun q => (by cases (show false = true from q))) h2).mp q
    have e : upI ρ0 gl.length (ρ0 gl.length) = ρ0 := by
      funext j
      unfold upI
      split
      · rename_i hj
        rw [hj]
      · rfl
    rw [e] at q2
    exact (gPFs hi).mp q2
theorem ret_ok (hW : PSw PS) {w : Option AV} {ρ : Nat → Int} {α Γ : Nat → Nat} {M : MM} {ls2 st2 : List MV} {m : Option MV} (h : e_ret t w S = true) (hi : idsK t = true) (ha : g0 = (kArgs t).map (valO ρ0 α0)) (hw : match w, m with
    | none, none => True
    | some w, some m => AR ρ α Γ w m
    | _, _ => False) (r : REL Y (gPS g0 g1 PS) (kEff t) Γ0 M0 ρ α Γ M S ls2 st2) : KPost Y PS t ρ0 α0 Γ0 M0 m M := by
  obtain ⟨i1, i2⟩ := bb2 hi
  obtain ⟨i1, i3⟩ := bb2 i1
  obtain ⟨i2, i4⟩ := bb2 i2
  obtain ⟨h1, h2⟩ := bb2 h
  obtain ⟨h1, h3⟩ := bb2 h1
  have b1 := ble_iff.mp h1
  have b2 := ble_iff.mp h3
  obtain ⟨r1, r2, r3, r4, r5, r6, f1, f2, f3, f4⟩ := r
  refine ⟨Γ, r1, f1, f2, by omega, by omega, ?_⟩
  split at h2
  · rename_i gl hgl
    obtain ⟨h2, h4⟩ := bb2 h2
    obtain ⟨h2, h5⟩ := bb2 h2
    have hL : LK ρ α ρ0 α0 gl := by
      unfold fdG at hgl
      split at hgl
      · rename_i p hp
        cases hgl
        have hm := List.mem_of_find?_eq_some hp
        have hb : Nat.beq p.1 0 = true := List.find?_some (p := fun p : PFE => Nat.beq p.1 0) hp
        have hb := beq_iff.mp hb
        have q := r6 p hm
        rw [hb] at q
        exact LK_g q h5 ha (beq_iff.mp h2)
      · cases hgl
    have hl : gl.length = (kArgs t).length := beq_iff.mp h2
    unfold RESok
    split at h4
    · rename_i hk
      match m, hw with
      | none, _ =>
        rw [hk]
        obtain ⟨q1, q2⟩ := bb2 h4
        refine ⟨rfl, ?_⟩
        have q := allD_ok (gPSw hW g0 g1) r2 r5 q2 r6
        have q3 := (subP_ok (PS := gPS g0 g1 PS) (x := ρ0 gl.length) hL (fun q => (by cases (show false = true from q))) q1).mp q
        have e : upI ρ0 gl.length (ρ0 gl.length) = ρ0 := by
          funext j
          unfold upI
          split
          · rename_i hj
            rw [hj]
          · rfl
        rw [e] at q3
        exact (gPFs i3).mp q3
      | some m, hw => exact hw.elim
    · rename_i w hk
      match m, hw with
      | none, hw => exact hw.elim
      | some m, hw =>
        rw [hk]
        obtain ⟨q1, q2⟩ := bb2 h4
        obtain ⟨q1, q3⟩ := bb2 q1
        obtain ⟨q2, q4⟩ := bb2 q2
        rw [Bool.and_eq_true, Bool.not_eq_true', Bool.not_eq_true', ltB_f, ltB_f] at q3
        have hb := ivl_ok r2 q1
        cases hw.int q1
        refine ⟨_, rfl, by omega, by omega, ?_⟩
        have q := allD_ok (gPSw hW g0 g1) r2 r5 q4 r6
        have q5 := (subP_ok (PS := gPS g0 g1 PS) (x := iv ρ w) hL (fun _ => rfl) q2).mp q
        rw [hl] at q5
        exact (gPFs i3).mp q5
    · rename_i w hk
      match m, hw with
      | none, hw => exact hw.elim
      | some m, hw =>
        rw [hk]
        obtain ⟨q1, q2⟩ := bb2 h4
        obtain ⟨q1, q3⟩ := bb2 q1
        obtain ⟨q2, q4⟩ := bb2 q2
        have hb := ivl_ok r2 q1
        cases hw.int q1
        rcases is01_ok q3 hb.1 hb.2 with e | e
        · right
          rw [e]
          have : ltB 0 (ivl S.2.2.1 w).1 = false := ltB_f.mpr (by omega)
          rw [this, Bool.false_or] at q4
          exact ⟨rfl, cOK_ok hW hL r2 i4 q4 r5 r6⟩
        · left
          rw [e]
          have : ltB (ivl S.2.2.1 w).2 1 = false := ltB_f.mpr (by omega)
          rw [this, Bool.false_or] at q2
          exact ⟨rfl, cOK_ok hW hL r2 i2 q2 r5 r6⟩
    · rename_i w hk
      match m, hw with
      | none, hw => exact hw.elim
      | some m, hw =>
        rw [hk]
        obtain ⟨x, rfl, -⟩ := hw.lng h4
        exact ⟨x, rfl⟩
    · cases h4
  · cases h2
end
