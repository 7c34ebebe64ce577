/-! the law: what a turn of its loop keeps -/
def scr (L : Nat) (xs : Nat → Int32) (j : Nat) : Int := if j < L then (xs j).toInt else 0
theorem scr_in {L : Nat} {xs : Nat → Int32} {j : Nat} : inI (scr L xs j) := by
  unfold scr
  split
  · exact oi_in _
  · exact ⟨by decide, by decide⟩
theorem scr_b {L : Nat} {xs : Nat → Int32} {j : Nat} : (-2147483648 : Int) ≤ scr L xs j ∧ scr L xs j ≤ 2147483647 := by
  have h : inI (scr L xs j) := scr_in
  unfold inI at h
  omega
abbrev gZ (n z : Nat) : GG := (0, 150 * n, z)
abbrev gI (n : Nat) : GG := gZ n 0
def LX : List PFE := [(58, [(2, 0, 54, 0), (0, 0, 0, 0)]), (29, [(2, 0, 54, 0), (0, 0, 0, 0)])]
def LY : List PFE := [(77, [(2, 0, 40, 0), (0, 0, 0, 0), (0, 0, 0, 0)]), (430, [(2, 0, 40, 0), (0, 0, 0, 0)]), (100, [(2, 0, 40, 0)]), (101, [(2, 0, 40, 0)]), (107, [(2, 0, 40, 0)]), (108, [(2, 0, 40, 0)])]
def L78 : PFE := (78, [(0, 0, 0, 0)])
def va (X : Nat) (f : PFE) : List MV := f.2.map (valO (fun _ => 0) (fun _ => X))
def up150 (f : PFE) : PFE := (f.1, f.2.set 1 (0, 0, 0, 150))
def noI (f : PFE) : Bool := f.2.all fun v => Nat.beq v.1 0 || Nat.beq v.1 2
theorem va_of {X : Nat} {ρ : Nat → Int} {f : PFE} (h : noI f = true) : f.2.map (valO ρ (fun _ => X)) = va X f := by
  unfold noI at h
  rw [List.all_eq_true] at h
  unfold va
  refine List.map_congr_left fun v hv => ?_
  have := h v hv
  rw [Bool.or_eq_true, beq_iff, beq_iff] at this
  unfold valO
  rcases this with e | e <;> (rw [e]; rfl)
def INV (L : Nat) (xs : Nat → Int32) (X Y a b : Nat) (Γ : Nat → Nat) (M : MM) : Prop :=
  HTy Yt Γ M ∧ Γ 0 = 0 ∧ 0 < M.1 ∧ M.2.2.1 0 = (23, L) ∧ (∀ j, M.2.2.2.2 0 j = scr L xs j) ∧ Γ X = 54 ∧ Γ Y = 40 ∧ (∀ f ∈ LX, PSt (gI a) f.1 (va X f) Γ M) ∧ (∀ f ∈ LY, PSt (gI b) f.1 (va Y f) Γ M)
def isin (f : PFE) (l : List PFE) : Bool := l.any fun q => decide (q = f)
theorem isin_iff {f : PFE} {l : List PFE} (h : isin f l = true) : f ∈ l := by
  unfold isin at h
  rw [List.any_eq_true] at h
  obtain ⟨q, q1, q2⟩ := h
  rw [← of_decide_eq_true q2]
  exact q1
def F77 : PFE := (77, [(2, 0, 40, 0), (0, 0, 0, 0), (0, 0, 0, 0)])
def dep2 (f : PFE) : List EF := cond (decide (f = F77)) [(40, 5, 6)] (dept f.1)
def keepB (t : KT) (f : PFE) : Bool := not (Nat.beq f.1 10 || Nat.beq f.1 11) && (dep2 f).all fun q => (kEff t).all fun e => efDis e q
def postB (t : KT) (f : PFE) : Bool := noI f && match (kRes t).1 with
  | 0 => isin f (kPost t)
  | 1 => isin f (kPost t)
  | 2 => isin f (kT t).2 && isin f (kF t).2
  | _ => false
theorem keep_ok {t : KT} {g : GG} {f : PFE} {X : Nat} {Γ Γ2 : Nat → Nat} {M M2 : MM} (h : keepB t f = true) (hT : HTy Yt Γ M) (hT2 : HTy Yt Γ2 M2) (hF : FRM (kEff t) Γ M M2) (hG : GEX M.1 Γ Γ2) (hf : PSt g f.1 (va X f) Γ M) : PSt g f.1 (va X f) Γ2 M2 := by
  unfold keepB at h
  obtain ⟨h1, h2⟩ := bb2 h
  rw [Bool.not_eq_true'] at h1
  rw [List.all_eq_true] at h2
  unfold dep2 at h2
  by_cases e7 : f = F77
  · subst e7
    obtain ⟨q1, q2⟩ : Γ X = 40 ∧ M.2.2.2.2 X 5 ≤ (g.2.1 : Int) + 0 := hf
    obtain ⟨r1, r2, -⟩ := cE hT hF hG (lo := 5) (hi := 6) (fun e he => List.all_eq_true.mp (h2 (40, 5, 6) (by rw [decide_eq_true (rfl : F77 = F77)]; exact List.mem_cons_self)) e he) q1 (by decide)
    show Γ2 X = 40 ∧ M2.2.2.2.2 X 5 ≤ (g.2.1 : Int) + 0
    exact ⟨r1, by rw [r2 5 (by decide) (by decide)]; exact q2⟩
  rw [decide_eq_false e7] at h2
  exact PSt_ok g f.1 (va X f) Γ Γ2 M M2 (kEff t) h1 hT hT2 hF hG (fun q hq e he => List.all_eq_true.mp (h2 q hq) e he) hf
theorem post_ok {t : KT} {g : GG} {f : PFE} {X : Nat} {Γ2 : Nat → Nat} {M2 : MM} {ρ : Nat → Int} {r : Option MV} (h : postB t f = true) (hR : RESok (PSt g) t ρ (fun _ => X) Γ2 M2 r) : PSt g f.1 (va X f) Γ2 M2 := by
  unfold postB at h
  obtain ⟨h1, h2⟩ := bb2 h
  have key : ∀ (ρ : Nat → Int) (l : List PFE), isin f l = true → PFs (PSt g) ρ (fun _ => X) Γ2 M2 l → PSt g f.1 (va X f) Γ2 M2 := by
    intro ρ l hl hP
    have := hP f (isin_iff hl)
    rw [va_of h1] at this
    exact this
  unfold RESok at hR
  split at hR
  · rename_i e
    rw [e] at h2
    exact key _ _ h2 hR.2
  · rename_i e
    rw [e] at h2
    obtain ⟨x, -, -, -, hP⟩ := hR
    exact key _ _ h2 hP
  · rename_i e
    rw [e] at h2
    obtain ⟨h3, h4⟩ := bb2 h2
    rcases hR with ⟨-, -, hP⟩ | ⟨-, -, hP⟩
    · exact key _ _ h3 hP
    · exact key _ _ h4 hP
  · rename_i n0 n1 n2
    split at h2
    · exact absurd ‹_› n0
    · exact absurd ‹_› n1
    · exact absurd ‹_› n2
    · cases h2
/-- 150 lines later -/
theorem cvX {n X : Nat} {Γ : Nat → Nat} {M : MM} : ∀ f ∈ LX, (PSt (gI n) f.1 (va X f) Γ M ∨ PSt (gI n) (up150 f).1 (va X (up150 f)) Γ M) → PSt (gI (n + 1)) f.1 (va X f) Γ M := by
  intro f hf h
  unfold LX at hf
  simp only [List.mem_cons, List.not_mem_nil, or_false] at hf
  rcases hf with rfl | rfl
  · have key : ∀ z : Int, z ≤ 150 → PSt (gI n) 58 [vr X, vi z] Γ M → PSt (gI (n + 1)) 58 [vr X, vi 0] Γ M := by
      intro z hz h
      obtain ⟨h1, b, h2, h3, h4⟩ := P_58 h
      have h4 : M.2.2.2.2 b 0 ≤ ((150 * n : Nat) : Int) + z := h4
      exact ⟨h1, b, h2, h3, by show M.2.2.2.2 b 0 ≤ ((150 * (n + 1) : Nat) : Int) + 0; omega⟩
    exact h.elim (key 0 (by decide)) (key 150 (by decide))
  · have key : ∀ z : Int, z ≤ 150 → PSt (gI n) 29 [vr X, vi z] Γ M → PSt (gI (n + 1)) 29 [vr X, vi 0] Γ M := by
      intro z hz h
      obtain ⟨h1, h2⟩ := P_29 h
      refine ⟨h1, fun b hb => ⟨(h2 b hb).1, ?_⟩⟩
      have h4 : M.2.2.2.2 b 0 ≤ ((150 * n : Nat) : Int) + z := (h2 b hb).2
      show M.2.2.2.2 b 0 ≤ ((150 * (n + 1) : Nat) : Int) + 0
      omega
    exact h.elim (key 0 (by decide)) (key 150 (by decide))
theorem cvY {n X : Nat} {Γ : Nat → Nat} {M : MM} : ∀ f ∈ LY, (PSt (gI n) f.1 (va X f) Γ M ∨ PSt (gI n) (up150 f).1 (va X (up150 f)) Γ M) → PSt (gI (n + 1)) f.1 (va X f) Γ M := by
  intro f hf h
  unfold LY at hf
  simp only [List.mem_cons, List.not_mem_nil, or_false] at hf
  rcases hf with rfl | rfl | rfl | rfl | rfl | rfl
  · have key : ∀ z : Int, z ≤ 150 → PSt (gI n) 77 [vr X, vi z, vi 0] Γ M → PSt (gI (n + 1)) 77 [vr X, vi 0, vi 0] Γ M := by
      intro z hz h
      obtain ⟨h1, h4⟩ : Γ X = 40 ∧ M.2.2.2.2 X 5 ≤ ((150 * n : Nat) : Int) + z := h
      exact ⟨h1, by show M.2.2.2.2 X 5 ≤ ((150 * (n + 1) : Nat) : Int) + 0; omega⟩
    exact h.elim (key 0 (by decide)) (key 150 (by decide))
  · have key : ∀ z : Int, z ≤ 150 → PSt (gI n) 430 [vr X, vi z] Γ M → PSt (gI (n + 1)) 430 [vr X, vi 0] Γ M := by
      intro z hz h
      obtain ⟨h1, h4⟩ : Γ X = 40 ∧ M.2.2.2.2 X 26 ≤ ((150 * n : Nat) : Int) + z := h
      exact ⟨h1, by show M.2.2.2.2 X 26 ≤ ((150 * (n + 1) : Nat) : Int) + 0; omega⟩
    exact h.elim (key 0 (by decide)) (key 150 (by decide))
  · exact h.elim (fun h => (h : PSt (gI n) 100 [vr X] Γ M)) (fun h => (h : PSt (gI n) 100 [vr X] Γ M))
  · exact h.elim (fun h => (h : PSt (gI n) 101 [vr X] Γ M)) (fun h => (h : PSt (gI n) 101 [vr X] Γ M))
  · exact h.elim (fun h => (h : PSt (gI n) 107 [vr X] Γ M)) (fun h => (h : PSt (gI n) 107 [vr X] Γ M))
  · exact h.elim (fun h => (h : PSt (gI n) 108 [vr X] Γ M)) (fun h => (h : PSt (gI n) 108 [vr X] Γ M))
/-- the third number says nothing to what is kept -/
theorem gzX {n z X : Nat} {Γ : Nat → Nat} {M : MM} : ∀ f ∈ LX, (PSt (gZ n z) f.1 (va X f) Γ M ↔ PSt (gI n) f.1 (va X f) Γ M) ∧ (PSt (gZ n z) (up150 f).1 (va X (up150 f)) Γ M ↔ PSt (gI n) (up150 f).1 (va X (up150 f)) Γ M) := by
  intro f hf
  unfold LX at hf
  simp only [List.mem_cons, List.not_mem_nil, or_false] at hf
  rcases hf with rfl | rfl
  · exact ⟨(Iff.rfl : P58 (gZ n z) [vr X, vi 0] Γ M ↔ P58 (gI n) [vr X, vi 0] Γ M), (Iff.rfl : P58 (gZ n z) [vr X, vi 150] Γ M ↔ P58 (gI n) [vr X, vi 150] Γ M)⟩
  · exact ⟨(Iff.rfl : P29 (gZ n z) [vr X, vi 0] Γ M ↔ P29 (gI n) [vr X, vi 0] Γ M), (Iff.rfl : P29 (gZ n z) [vr X, vi 150] Γ M ↔ P29 (gI n) [vr X, vi 150] Γ M)⟩
theorem gzY {n z X : Nat} {Γ : Nat → Nat} {M : MM} : ∀ f ∈ LY, (PSt (gZ n z) f.1 (va X f) Γ M ↔ PSt (gI n) f.1 (va X f) Γ M) ∧ (PSt (gZ n z) (up150 f).1 (va X (up150 f)) Γ M ↔ PSt (gI n) (up150 f).1 (va X (up150 f)) Γ M) := by
  intro f hf
  unfold LY at hf
  simp only [List.mem_cons, List.not_mem_nil, or_false] at hf
  rcases hf with rfl | rfl | rfl | rfl | rfl | rfl
  · exact ⟨(Iff.rfl : P77 (gZ n z) [vr X, vi 0, vi 0] Γ M ↔ P77 (gI n) [vr X, vi 0, vi 0] Γ M), (Iff.rfl : P77 (gZ n z) [vr X, vi 150, vi 0] Γ M ↔ P77 (gI n) [vr X, vi 150, vi 0] Γ M)⟩
  · exact ⟨(Iff.rfl : P430 (gZ n z) [vr X, vi 0] Γ M ↔ P430 (gI n) [vr X, vi 0] Γ M), (Iff.rfl : P430 (gZ n z) [vr X, vi 150] Γ M ↔ P430 (gI n) [vr X, vi 150] Γ M)⟩
  · exact ⟨(Iff.rfl : P100 (gZ n z) [vr X] Γ M ↔ P100 (gI n) [vr X] Γ M), (Iff.rfl : P100 (gZ n z) [vr X] Γ M ↔ P100 (gI n) [vr X] Γ M)⟩
  · exact ⟨(Iff.rfl : P101 (gZ n z) [vr X] Γ M ↔ P101 (gI n) [vr X] Γ M), (Iff.rfl : P101 (gZ n z) [vr X] Γ M ↔ P101 (gI n) [vr X] Γ M)⟩
  · exact ⟨(Iff.rfl : P107 (gZ n z) [vr X] Γ M ↔ P107 (gI n) [vr X] Γ M), (Iff.rfl : P107 (gZ n z) [vr X] Γ M ↔ P107 (gI n) [vr X] Γ M)⟩
  · exact ⟨(Iff.rfl : P108 (gZ n z) [vr X] Γ M ↔ P108 (gI n) [vr X] Γ M), (Iff.rfl : P108 (gZ n z) [vr X] Γ M ↔ P108 (gI n) [vr X] Γ M)⟩
def preX (t : KT) : Bool := (kPre t).all (fun f => isin f (L78 :: LX))
def preY (t : KT) : Bool := (kPre t).all (fun f => isin f (L78 :: LY))
def okX (t : KT) : Bool := (true && LX.all (fun f => keepB t f || (postB t f || postB t (up150 f)))) && (LY.all (fun f => keepB t f) && (Nat.ble (kAo t) 19 && Nat.ble (kAs t) 2600))
def okY (t : KT) : Bool := (true && LY.all (fun f => keepB t f || (postB t f || postB t (up150 f)))) && (LX.all (fun f => keepB t f) && (Nat.beq (kAo t) 0 && Nat.beq (kAs t) 0))
theorem noI_pre : (L78 :: (LX ++ LY)).all noI = true := by decide
theorem pre_ok {n X : Nat} {Γ : Nat → Nat} {M : MM} {ρ : Nat → Int} {l L0 : List PFE} (hl : l.all (fun f => isin f (L78 :: L0)) = true) (hs : L0.all noI = true) (hn : n ≤ 512) (h : ∀ f ∈ L0, PSt (gI n) f.1 (va X f) Γ M) : PFs (PSt (gI n)) ρ (fun _ => X) Γ M l := by
  intro f hf
  rw [List.all_eq_true] at hl hs
  rcases List.mem_cons.mp (isin_iff (hl f hf)) with rfl | h2
  · show (0 : Int) = 0 ∧ ((150 * n : Nat) : Int) ≤ 900000
    exact ⟨rfl, by omega⟩
  · rw [va_of (hs f h2)]
    exact h f h2
theorem pre_okz {n z X : Nat} {Γ : Nat → Nat} {M : MM} {ρ : Nat → Int} {EX l L0 : List PFE} (hl : l.all (fun f => isin f (EX ++ (L78 :: L0))) = true) (hs : L0.all noI = true) (hn : n ≤ 512) (h : ∀ f ∈ L0, PSt (gZ n z) f.1 (va X f) Γ M) (hE : ∀ f ∈ EX, PSt (gZ n z) f.1 (f.2.map (valO ρ (fun _ => X))) Γ M) : PFs (PSt (gZ n z)) ρ (fun _ => X) Γ M l := by
  intro f hf
  rw [List.all_eq_true] at hl hs
  rcases List.mem_append.mp (isin_iff (hl f hf)) with h1 | h1
  · exact hE f h1
  rcases List.mem_cons.mp h1 with rfl | h2
  · show (0 : Int) = 0 ∧ ((150 * n : Nat) : Int) ≤ 900000
    exact ⟨rfl, by omega⟩
  · rw [va_of (hs f h2)]
    exact h f h2
theorem scr_kept {L : Nat} {xs : Nat → Int32} {Γ : Nat → Nat} {M M2 : MM} {E : List EF} (hF : FRM E Γ M M2) (h0 : Γ 0 = 0) (hl : 0 < M.1) (hk : M.2.2.1 0 = (23, L)) (hc : ∀ j, M.2.2.2.2 0 j = scr L xs j) : 0 < M2.1 ∧ M2.2.2.1 0 = (23, L) ∧ ∀ j, M2.2.2.2.2 0 j = scr L xs j :=
  ⟨Nat.lt_of_lt_of_le hl hF.1, (hF.2 0 hl).1.trans hk, fun j => ((hF.2 0 hl).2 j (fun _ _ _ _ _ => h0)).1.trans (hc j)⟩
/-- a contract and more -/
def KOKx (Y : Nat → TYE) (PS : PST) (t : KT) (EXT : (Nat → Int) → (Nat → Nat) → MM → Option MV → MM → Prop) : Prop := ∀ (d : Nat) (ρ : Nat → Int) (α Γ : Nat → Nat) (M : MM) (as gs : List MV), gs.length = gN t → kD t ≤ d → HTy Y Γ M → BO ρ (kB t) → ARs ρ α Γ (kArgs t) (as ++ gs) → PFs PS ρ α Γ M (kPre t) → Rm d (kM t) as M (fun r M2 => KPost Y PS t ρ α Γ M r M2 ∧ EXT ρ α M r M2)
def noX : (Nat → Int) → (Nat → Nat) → MM → Option MV → MM → Prop := fun _ _ _ _ _ => True
theorem KOKx_of {Y : Nat → TYE} {PS : PST} {t : KT} (h : KOK Y PS t) : KOKx Y PS t noX := fun d ρ α Γ M as gs h1 h2 h3 h4 h5 h6 => by
  obtain ⟨r, M2, hr, q⟩ := h d ρ α Γ M as gs h1 h2 h3 h4 h5 h6
  exact ⟨r, M2, hr, q, trivial⟩
theorem law_rX {t : KT} {L : Nat} {xs : Nat → Int32} {X Y n d z : Nat} {Γ : Nat → Nat} {M : MM} {ρ : Nat → Int} {as gs : List MV} {EXT : (Nat → Int) → (Nat → Nat) → MM → Option MV → MM → Prop} (hk : ∀ g, KOKx Yt (PSt g) t EXT) (ok : okX t = true) (hI : INV L xs X Y n n Γ M) (hpre : PFs (PSt (gZ n z)) ρ (fun _ => X) Γ M (kPre t)) (hg : gs.length = gN t) (hB : BO ρ (kB t)) (hA : ARs ρ (fun _ => X) Γ (kArgs t) (as ++ gs)) (hd : kD t ≤ d) : Rm d (kM t) as M (fun r M2 => ∃ Γ2, INV L xs X Y (n + 1) n Γ2 M2 ∧ M2.1 ≤ M.1 + 19 ∧ M2.2.1 ≤ M.2.1 + 2600 ∧ RESok (PSt (gZ n z)) t ρ (fun _ => X) Γ2 M2 r ∧ FRM (kEff t) Γ M M2 ∧ GEX M.1 Γ Γ2 ∧ EXT ρ (fun _ => X) M r M2) := by
  obtain ⟨hT, h0, hl, hK, hc, gX, gY, fX, fY⟩ := hI
  obtain ⟨o1, o2⟩ := bb2 ok
  obtain ⟨o1, o3⟩ := bb2 o1
  obtain ⟨o2, o4⟩ := bb2 o2
  obtain ⟨o4, o5⟩ := bb2 o4
  rw [List.all_eq_true] at o2 o3
  obtain ⟨r, M2, hr, ⟨Γ2, q1, q2, q3, q4, q5, q6⟩, q7⟩ := hk (gZ n z) d ρ (fun _ => X) Γ M as gs hg hd hT hB hA hpre
  obtain ⟨s1, s2, s3⟩ := scr_kept q2 h0 hl hK hc
  rw [ble_iff] at o4 o5
  refine ⟨r, M2, hr, Γ2, ⟨q1, (q3 0 hl).trans h0, s1, s2, s3, (q3 X (HTy_lt hT (by rw [gX]; decide))).trans gX, (q3 Y (HTy_lt hT (by rw [gY]; decide))).trans gY, fun f hf => cvX f hf ?_, fun f hf => keep_ok (o2 f hf) hT q1 q2 q3 (fY f hf)⟩, by omega, by omega, q6, q2, q3, q7⟩
  have := o3 f hf
  rw [Bool.or_eq_true, Bool.or_eq_true] at this
  rcases this with h | h | h
  · exact Or.inl (keep_ok h hT q1 q2 q3 (fX f hf))
  · exact Or.inl ((gzX f hf).1.mp (post_ok h q6))
  · exact Or.inr ((gzX f hf).2.mp (post_ok h q6))
theorem law_rY {t : KT} {L : Nat} {xs : Nat → Int32} {X Y n d z : Nat} {Γ : Nat → Nat} {M : MM} {ρ : Nat → Int} {as gs : List MV} {EXT : (Nat → Int) → (Nat → Nat) → MM → Option MV → MM → Prop} (hk : ∀ g, KOKx Yt (PSt g) t EXT) (ok : okY t = true) (hI : INV L xs X Y (n + 1) n Γ M) (hpre : PFs (PSt (gZ n z)) ρ (fun _ => Y) Γ M (kPre t)) (hg : gs.length = gN t) (hB : BO ρ (kB t)) (hA : ARs ρ (fun _ => Y) Γ (kArgs t) (as ++ gs)) (hd : kD t ≤ d) : Rm d (kM t) as M (fun r M2 => ∃ Γ2, INV L xs X Y (n + 1) (n + 1) Γ2 M2 ∧ M2.1 ≤ M.1 ∧ M2.2.1 ≤ M.2.1 ∧ RESok (PSt (gZ n z)) t ρ (fun _ => Y) Γ2 M2 r ∧ FRM (kEff t) Γ M M2 ∧ GEX M.1 Γ Γ2 ∧ EXT ρ (fun _ => Y) M r M2) := by
  obtain ⟨hT, h0, hl, hK, hc, gX, gY, fX, fY⟩ := hI
  obtain ⟨o1, o2⟩ := bb2 ok
  obtain ⟨o1, o3⟩ := bb2 o1
  obtain ⟨o2, o4⟩ := bb2 o2
  obtain ⟨o4, o5⟩ := bb2 o4
  rw [List.all_eq_true] at o2 o3
  obtain ⟨r, M2, hr, ⟨Γ2, q1, q2, q3, q4, q5, q6⟩, q7⟩ := hk (gZ n z) d ρ (fun _ => Y) Γ M as gs hg hd hT hB hA hpre
  obtain ⟨s1, s2, s3⟩ := scr_kept q2 h0 hl hK hc
  rw [beq_iff] at o4 o5
  refine ⟨r, M2, hr, Γ2, ⟨q1, (q3 0 hl).trans h0, s1, s2, s3, (q3 X (HTy_lt hT (by rw [gX]; decide))).trans gX, (q3 Y (HTy_lt hT (by rw [gY]; decide))).trans gY, fun f hf => keep_ok (o2 f hf) hT q1 q2 q3 (fX f hf), fun f hf => cvY f hf ?_⟩, by omega, by omega, q6, q2, q3, q7⟩
  have := o3 f hf
  rw [Bool.or_eq_true, Bool.or_eq_true] at this
  rcases this with h | h | h
  · exact Or.inl (keep_ok h hT q1 q2 q3 (fY f hf))
  · exact Or.inl ((gzY f hf).1.mp (post_ok h q6))
  · exact Or.inr ((gzY f hf).2.mp (post_ok h q6))
/-! numbers for a contract -/
def rl (l : List Int) : Nat → Int := fun i => l.getD i 0
def bok : BC → List Int → Prop
  | [], [] => True
  | c :: C, x :: l => (c.1 ≤ x ∧ x ≤ c.2) ∧ bok C l
  | _, _ => False
theorem BO_rl : ∀ {C : BC} {l : List Int}, bok C l → BO (rl l) C
  | [], [], _ => fun i => by
    show (-2147483648 : Int) ≤ ([] : List Int).getD i 0 ∧ ([] : List Int).getD i 0 ≤ (2147483647 : Int)
    rw [show ([] : List Int).getD i 0 = 0 from rfl]
    exact ⟨by decide, by decide⟩
  | c :: C, x :: l, h => fun i => by
    match i with
    | 0 => exact h.1
    | i + 1 => exact BO_rl h.2 i
theorem ar1 {ρ : Nat → Int} {α Γ : Nat → Nat} {i : Nat} : AR ρ α Γ (1, i, 0, 0) (vi (ρ i)) := by
  show vi (ρ i) = vi (ρ i + 0)
  rw [Int.add_zero]
/-! rows of the law -/
section
variable {d pc : Nat} {ls t : List MV} {M : MM} {Q : Option MV → MM → Prop}
theorem m_aload {k : Nat} {i : Fin 4} {q : Nat} (hd : decode (mcode k) pc = .ok (.aload_n i, 1)) (hl : ls[(i : Nat)]? = some (vr q)) (kk : Wm d k (pc + 1) ls (vr q :: t) M Q) : Wm d k pc ls t M Q := by
  obtain ⟨s, u, K, R, I⟩ := M
  exact s_aload_n hd hl kk
theorem m_iload {k : Nat} {i : Fin 4} {x : Int} (hd : decode (mcode k) pc = .ok (.iload_n i, 1)) (hl : ls[(i : Nat)]? = some (vi x)) (kk : Wm d k (pc + 1) ls (vi x :: t) M Q) : Wm d k pc ls t M Q := by
  obtain ⟨s, u, K, R, I⟩ := M
  exact s_iload_n hd hl kk
theorem m_pop {k : Nat} {v : MV} (hd : decode (mcode k) pc = .ok (.pop, 1)) (hw : wd v = 1) (kk : Wm d k (pc + 1) ls t M Q) : Wm d k pc ls (v :: t) M Q := by
  obtain ⟨s, u, K, R, I⟩ := M
  exact s_pop hd hw kk
theorem m_pop2 {k : Nat} {v : MV} (hd : decode (mcode k) pc = .ok (.pop2, 1)) (hw : wd v = 2) (kk : Wm d k (pc + 1) ls t M Q) : Wm d k pc ls (v :: t) M Q := by
  obtain ⟨s, u, K, R, I⟩ := M
  exact s_pop2 hd hw kk
theorem m_goto {k : Nat} {off : Int} (tgt : Nat) (hd : decode (mcode k) pc = .ok (.goto off, 3)) (ht : (pc : Int) + off = (tgt : Int)) (kk : Wm d k tgt ls t M Q) : Wm d k pc ls t M Q := by
  obtain ⟨s, u, K, R, I⟩ := M
  exact s_goto tgt hd ht kk
theorem m_i2l {k : Nat} {x : Int} (hd : decode (mcode k) pc = .ok (.i2l, 1)) (kk : Wm d k (pc + 1) ls (vl x :: t) M Q) : Wm d k pc ls (vi x :: t) M Q := by
  obtain ⟨s, u, K, R, I⟩ := M
  exact s_i2l hd kk
theorem m_bipush {k : Nat} {n : Int} (hd : decode (mcode k) pc = .ok (.bipush n, 2)) (hn : inI n) (h8 : (Int8.ofInt n).toInt32 = Int32.ofInt n) (kk : Wm d k (pc + 2) ls (vi n :: t) M Q) : Wm d k pc ls t M Q := by
  obtain ⟨s, u, K, R, I⟩ := M
  exact s_bipush hd hn h8 kk
theorem m_lshl {k : Nat} {x y : Int} (hd : decode (mcode k) pc = .ok (.lshl, 1)) (kk : ∀ z, Wm d k (pc + 1) ls (vl z :: t) M Q) : Wm d k pc ls (vi y :: vl x :: t) M Q := by
  obtain ⟨s, u, K, R, I⟩ := M
  exact s_lshl hd (kk _)
theorem m_ldc2 {k idx : Nat} {x : Int} (hd : decode (mcode k) pc = .ok (.ldc2_w idx, 3)) (hc : csl (mcls k) idx = some x) (hn : inL x) (kk : Wm d k (pc + 3) ls (vl x :: t) M Q) : Wm d k pc ls t M Q := by
  obtain ⟨s, u, K, R, I⟩ := M
  exact s_ldc2 hd hc hn kk
theorem m_land {k : Nat} {x y : Int} (hd : decode (mcode k) pc = .ok (.land, 1)) (kk : ∀ z, Wm d k (pc + 1) ls (vl z :: t) M Q) : Wm d k pc ls (vl y :: vl x :: t) M Q := by
  obtain ⟨s, u, K, R, I⟩ := M
  exact s_land hd (kk _)
theorem m_lor {k : Nat} {x y : Int} (hd : decode (mcode k) pc = .ok (.lor, 1)) (kk : ∀ z, Wm d k (pc + 1) ls (vl z :: t) M Q) : Wm d k pc ls (vl y :: vl x :: t) M Q := by
  obtain ⟨s, u, K, R, I⟩ := M
  exact s_lor hd (kk _)
/-- a number of the script -/
theorem law_ld {k L : Nat} {xs : Nat → Int32} {X Y a b n : Nat} {Γ : Nat → Nat} (j : Nat) (hI : INV L xs X Y a b Γ M) (h6 : 6 * n + 6 ≤ L) (hL : L ≤ 3072) (hj : j ≤ 5) (h0 : ls[0]? = some (vr 0)) (h3 : ls[3]? = some (vi ((6 * n : Nat) : Int))) (d1 : decode (mcode k) pc = .ok (.aload_n 0, 1)) (d2 : decode (mcode k) (pc + 1) = .ok (.iload_n 3, 1)) (d3 : decode (mcode k) (pc + 1 + 1) = .ok (.iconst (j : Int), 1)) (d4 : decode (mcode k) (pc + 1 + 1 + 1) = .ok (.iadd, 1)) (d5 : decode (mcode k) (pc + 1 + 1 + 1 + 1) = .ok (.iaload, 1)) (kk : Wm d k (pc + 1 + 1 + 1 + 1 + 1) ls (vi (scr L xs (6 * n + j)) :: t) M Q) : Wm d k pc ls t M Q := by
  obtain ⟨-, -, -, hK, hc, -⟩ := hI
  obtain ⟨s, u, K, R, I⟩ := M
  have e : wI (((6 * n : Nat) : Int) + (j : Int)) = ((6 * n + j : Nat) : Int) := by
    rw [wI_id (by unfold inI; omega)]
    omega
  refine s_aload_n (i := 0) d1 h0 (s_iload_n (i := 3) d2 h3 (s_iconst d3 (by unfold inI; omega) (s_iadd d4 ?_)))
  rw [e]
  refine s_sald d5 hK (by omega) (by omega) ?_ kk
  rw [Int.toNat_natCast]
  exact hc _
/-- true if it isn't 0 -/
theorem law_z {k tz te : Nat} {x o1 o2 : Int} (d1 : decode (mcode k) pc = .ok (.ifCond .eq o1, 3)) (h1 : (pc : Int) + o1 = (tz : Int)) (d2 : decode (mcode k) (pc + 3) = .ok (.iconst 1, 1)) (d3 : decode (mcode k) (pc + 3 + 1) = .ok (.goto o2, 3)) (h2 : ((pc + 3 + 1 : Nat) : Int) + o2 = (te : Int)) (d4 : decode (mcode k) tz = .ok (.iconst 0, 1)) (h3 : tz + 1 = te) (kk : ∀ z : Int, (z = 0 ∧ x = 0 ∨ z = 1 ∧ x ≠ 0) → Wm d k te ls (vi z :: t) M Q) : Wm d k pc ls (vi x :: t) M Q := by
  obtain ⟨s, u, K, R, I⟩ := M
  refine s_if_eq tz d1 h1 (fun h => ?_) (fun h => ?_)
  · refine s_iconst d4 ⟨by decide, by decide⟩ ?_
    rw [h3]
    exact kk 0 (Or.inl ⟨rfl, h⟩)
  · exact s_iconst d2 ⟨by decide, by decide⟩ (s_goto te d3 h2 (kk 1 (Or.inr ⟨rfl, h⟩)))
theorem s_invL {k idx y a c n : Nat} {Q1 : Option MV → MM → Prop} (as : List MV) (hd : decode (mcode k) pc = .ok (.invokevirtual idx, 3)) (hp : pool (mcls k) idx = some (4, y, n)) (hn0 : as.length = n) (hy : mcls y = c) (ha : M.2.2.1 a = (c, 0)) (hs : mstat y = false) (hn : ((mname y).name == "<init>") = false) (hw : wds t ≤ 8) (hc : Rm d y (vr a :: as) M Q1) (kk : ∀ r M1, Q1 r M1 → Wm d k (pc + 3) ls (r.toList ++ t) M1 Q) : Wm d k pc ls (as.reverse ++ (vr a :: t)) M Q := by
  obtain ⟨s, u, K, R, I⟩ := M
  obtain ⟨r1, M1, hr, hq⟩ := hc
  obtain ⟨n9, r, M', h, q⟩ := kk r1 M1 hq
  exact ⟨n9 + 1, r, M', ⟨⟨Nat.le_trans hr.mono.1 h.mono.1, Nat.le_trans hr.mono.2 h.mono.2⟩, _, _, hd, Or.inr ⟨rfl, y, n, as, a, t, r1, M1, hp, rfl, hn0, hy ▸ ha, hs, hn, hw, hr, h⟩⟩, q⟩
end
theorem INV_kX {L : Nat} {xs : Nat → Int32} {X Y a b : Nat} {Γ : Nat → Nat} {M : MM} (hI : INV L xs X Y a b Γ M) : M.2.2.1 X = (11, 0) := by
  obtain ⟨hT, -, -, -, -, gX, -⟩ := hI
  have := (hT X (by rw [gX]; decide)).2.1
  rw [gX] at this
  exact this
theorem INV_kY {L : Nat} {xs : Nat → Int32} {X Y a b : Nat} {Γ : Nat → Nat} {M : MM} (hI : INV L xs X Y a b Γ M) : M.2.2.1 Y = (12, 0) := by
  obtain ⟨hT, -, -, -, -, -, gY, -⟩ := hI
  have := (hT Y (by rw [gY]; decide)).2.1
  rw [gY] at this
  exact this
theorem res_i {g : GG} {t : KT} {ρ : Nat → Int} {α Γ : Nat → Nat} {M : MM} {r : Option MV} (h : (Nat.beq (kRes t).1 1 || Nat.beq (kRes t).1 2) = true) (hR : RESok (PSt g) t ρ α Γ M r) : ∃ x, r = some (vi x) := by
  rw [Bool.or_eq_true, beq_iff, beq_iff] at h
  unfold RESok at hR
  rcases h with h | h
  · rw [h] at hR
    obtain ⟨x, hx, -⟩ := hR
    exact ⟨x, hx⟩
  · rw [h] at hR
    rcases hR with ⟨hx, -⟩ | ⟨hx, -⟩
    · exact ⟨1, hx⟩
    · exact ⟨0, hx⟩
theorem res_l {g : GG} {t : KT} {ρ : Nat → Int} {α Γ : Nat → Nat} {M : MM} {r : Option MV} (h : (kRes t).1 = 3) (hR : RESok (PSt g) t ρ α Γ M r) : ∃ x, r = some (vl x) := by
  unfold RESok at hR
  rw [h] at hR
  exact hR
theorem preX_ok {t : KT} {L : Nat} {xs : Nat → Int32} {X Y a b : Nat} {Γ : Nat → Nat} {M : MM} {ρ : Nat → Int} (h : preX t = true) (hn : a ≤ 512) (hI : INV L xs X Y a b Γ M) : PFs (PSt (gI a)) ρ (fun _ => X) Γ M (kPre t) := pre_ok h (by decide) hn hI.2.2.2.2.2.2.2.1
theorem preY_ok {t : KT} {L : Nat} {xs : Nat → Int32} {X Y a b : Nat} {Γ : Nat → Nat} {M : MM} {ρ : Nat → Int} (h : preY t = true) (hn : b ≤ 512) (hI : INV L xs X Y a b Γ M) : PFs (PSt (gI b)) ρ (fun _ => Y) Γ M (kPre t) := pre_ok h (by decide) hn hI.2.2.2.2.2.2.2.2
theorem preXz {t : KT} {L z : Nat} {xs : Nat → Int32} {X Y a b : Nat} {Γ : Nat → Nat} {M : MM} {ρ : Nat → Int} (EX : List PFE) (h : (kPre t).all (fun f => isin f (EX ++ (L78 :: LX))) = true) (hn : a ≤ 512) (hI : INV L xs X Y a b Γ M) (hE : ∀ f ∈ EX, PSt (gZ a z) f.1 (f.2.map (valO ρ (fun _ => X))) Γ M) : PFs (PSt (gZ a z)) ρ (fun _ => X) Γ M (kPre t) := pre_okz h (by decide) hn (fun f hf => (gzX f hf).1.mpr (hI.2.2.2.2.2.2.2.1 f hf)) hE
theorem preYz {t : KT} {L z : Nat} {xs : Nat → Int32} {X Y a b : Nat} {Γ : Nat → Nat} {M : MM} {ρ : Nat → Int} (EX : List PFE) (h : (kPre t).all (fun f => isin f (EX ++ (L78 :: LY))) = true) (hn : b ≤ 512) (hI : INV L xs X Y a b Γ M) (hE : ∀ f ∈ EX, PSt (gZ b z) f.1 (f.2.map (valO ρ (fun _ => Y))) Γ M) : PFs (PSt (gZ b z)) ρ (fun _ => Y) Γ M (kPre t) := pre_okz h (by decide) hn (fun f hf => (gzY f hf).1.mpr (hI.2.2.2.2.2.2.2.2 f hf)) hE
abbrev lsn (X Y n : Nat) : List MV := [vr 0, vr X, vr Y, vi ((6 * n : Nat) : Int)]
section
variable {t : KT} {L : Nat} {xs : Nat → Int32} {X Y n d pc idx m : Nat} {Γ : Nat → Nat} {M : MM} {ρ : Nat → Int} {Q : Option MV → MM → Prop} {t0 : List MV}
theorem law_X {z : Nat} {EXT : (Nat → Int) → (Nat → Nat) → MM → Option MV → MM → Prop} (as gs : List MV) (hk : ∀ g, KOKx Yt (PSt g) t EXT) (ok : (okX t && (Nat.beq gs.length (gN t) && Nat.ble (kD t) 20)) = true) (hI : INV L xs X Y n n Γ M) (hpre : PFs (PSt (gZ n z)) ρ (fun _ => X) Γ M (kPre t)) (hd : 20 ≤ d) (hB : BO ρ (kB t)) (hA : ARs ρ (fun _ => X) Γ (kArgs t) (vr X :: (as ++ gs))) (hdc : decode (mcode 291) pc = .ok (.invokevirtual idx, 3)) {na : Nat} (hp : pool (mcls 291) idx = some (4, kM t, na)) (hna : as.length = na) (hy : mcls (kM t) = 11) (hs : mstat (kM t) = false) (hnm : ((mname (kM t)).name == "<init>") = false) (hw : wds t0 ≤ 8) (kk : ∀ r Γ2 M2, INV L xs X Y (n + 1) n Γ2 M2 → M2.1 ≤ M.1 + 19 → M2.2.1 ≤ M.2.1 + 2600 → RESok (PSt (gZ n z)) t ρ (fun _ => X) Γ2 M2 r → FRM (kEff t) Γ M M2 → GEX M.1 Γ Γ2 → EXT ρ (fun _ => X) M r M2 → Wm d 291 (pc + 3) (lsn X Y m) (r.toList ++ t0) M2 Q) : Wm d 291 pc (lsn X Y m) (as.reverse ++ (vr X :: t0)) M Q := by
  obtain ⟨o1, o2⟩ := bb2 ok
  obtain ⟨o2, o3⟩ := bb2 o2
  exact s_invL as hdc hp hna hy (INV_kX hI) hs hnm hw (law_rX hk o1 hI hpre (beq_iff.mp o2) hB hA (Nat.le_trans (ble_iff.mp o3) hd)) (fun r M1 ⟨Γ2, a1, a2, a3, a4, a5, a6, a7⟩ => kk r Γ2 M1 a1 a2 a3 a4 a5 a6 a7)
theorem law_Y {z : Nat} {EXT : (Nat → Int) → (Nat → Nat) → MM → Option MV → MM → Prop} (as gs : List MV) (hk : ∀ g, KOKx Yt (PSt g) t EXT) (ok : (okY t && (Nat.beq gs.length (gN t) && Nat.ble (kD t) 20)) = true) (hI : INV L xs X Y (n + 1) n Γ M) (hpre : PFs (PSt (gZ n z)) ρ (fun _ => Y) Γ M (kPre t)) (hd : 20 ≤ d) (hB : BO ρ (kB t)) (hA : ARs ρ (fun _ => Y) Γ (kArgs t) (vr Y :: (as ++ gs))) (hdc : decode (mcode 291) pc = .ok (.invokevirtual idx, 3)) {na : Nat} (hp : pool (mcls 291) idx = some (4, kM t, na)) (hna : as.length = na) (hy : mcls (kM t) = 12) (hs : mstat (kM t) = false) (hnm : ((mname (kM t)).name == "<init>") = false) (hw : wds t0 ≤ 8) (kk : ∀ r Γ2 M2, INV L xs X Y (n + 1) (n + 1) Γ2 M2 → M2.1 ≤ M.1 → M2.2.1 ≤ M.2.1 → RESok (PSt (gZ n z)) t ρ (fun _ => Y) Γ2 M2 r → FRM (kEff t) Γ M M2 → GEX M.1 Γ Γ2 → EXT ρ (fun _ => Y) M r M2 → Wm d 291 (pc + 3) (lsn X Y m) (r.toList ++ t0) M2 Q) : Wm d 291 pc (lsn X Y m) (as.reverse ++ (vr Y :: t0)) M Q := by
  obtain ⟨o1, o2⟩ := bb2 ok
  obtain ⟨o2, o3⟩ := bb2 o2
  exact s_invL as hdc hp hna hy (INV_kY hI) hs hnm hw (law_rY hk o1 hI hpre (beq_iff.mp o2) hB hA (Nat.le_trans (ble_iff.mp o3) hd)) (fun r M1 ⟨Γ2, a1, a2, a3, a4, a5, a6, a7⟩ => kk r Γ2 M1 a1 a2 a3 a4 a5 a6 a7)
end
/-! both sides answer alike -/
theorem alike2 {g : GG} {t t2 : KT} {ρ : Nat → Int} {α α2 Γ Γ2 : Nat → Nat} {M M2 : MM} {x y lo hi : Int} (h1 : (kRes t).1 = 2) (h2 : (kRes t2).1 = 2) (b1 : (kT t).1 = [(1, lo, hi), (2, lo, hi)]) (b2 : (kT t2).1 = [(1, lo, hi), (2, lo, hi)]) (f1 : (441, [(1, 1, 0, 0), (1, 2, 0, 0), (0, 0, 0, lo), (0, 0, 0, hi)]) ∈ (kF t).2) (f2 : (441, [(1, 1, 0, 0), (1, 2, 0, 0), (0, 0, 0, lo), (0, 0, 0, hi)]) ∈ (kF t2).2) (R1 : RESok (PSt g) t ρ α Γ M (some (vi x))) (R2 : RESok (PSt g) t2 ρ α2 Γ2 M2 (some (vi y))) : x = y := by
  unfold RESok at R1 R2
  rw [h1] at R1
  rw [h2] at R2
  have key : ∀ (t t2 : KT) (α α2 Γ Γ2 : Nat → Nat) (M M2 : MM), (kT t).1 = [(1, lo, hi), (2, lo, hi)] → (441, [(1, 1, 0, 0), (1, 2, 0, 0), (0, 0, 0, lo), (0, 0, 0, hi)]) ∈ (kF t2).2 → CNDok (PSt g) ρ α Γ M (kT t) → CNDok (PSt g) ρ α2 Γ2 M2 (kF t2) → False := by
    intro t t2 α α2 Γ Γ2 M M2 e1 e2 c1 c2
    have B := c1.1
    rw [e1] at B
    have p1 := B (1, lo, hi) List.mem_cons_self
    have p2 := B (2, lo, hi) (List.mem_cons_of_mem _ List.mem_cons_self)
    have p1 : lo ≤ ρ 1 ∧ ρ 1 ≤ hi := p1
    have p2 : lo ≤ ρ 2 ∧ ρ 2 ≤ hi := p2
    have F : (ρ 1 + 0 < lo ∨ hi < ρ 1 + 0) ∨ (ρ 2 + 0 < lo ∨ hi < ρ 2 + 0) := c2.2 _ e2
    omega
  rcases R1 with ⟨e1, c1⟩ | ⟨e1, c1⟩ <;> rcases R2 with ⟨e2, c2⟩ | ⟨e2, c2⟩ <;> cases e1 <;> cases e2
  · rfl
  · exact (key t t2 α α2 Γ Γ2 M M2 b1 f2 c1 c2).elim
  · exact (key t2 t α2 α Γ2 Γ M2 M b2 f1 c2 c1).elim
  · rfl
theorem alike1 {g : GG} {t t2 : KT} {ρ : Nat → Int} {α α2 Γ Γ2 : Nat → Nat} {M M2 : MM} {x y lo hi : Int} (h1 : (kRes t).1 = 2) (h2 : (kRes t2).1 = 2) (b1 : (kT t).1 = [(1, lo, hi)]) (b2 : (kT t2).1 = [(1, lo, hi)]) (f1 : (440, [(1, 1, 0, 0), (0, 0, 0, lo), (0, 0, 0, hi)]) ∈ (kF t).2) (f2 : (440, [(1, 1, 0, 0), (0, 0, 0, lo), (0, 0, 0, hi)]) ∈ (kF t2).2) (R1 : RESok (PSt g) t ρ α Γ M (some (vi x))) (R2 : RESok (PSt g) t2 ρ α2 Γ2 M2 (some (vi y))) : x = y := by
  unfold RESok at R1 R2
  rw [h1] at R1
  rw [h2] at R2
  have key : ∀ (t t2 : KT) (α α2 Γ Γ2 : Nat → Nat) (M M2 : MM), (kT t).1 = [(1, lo, hi)] → (440, [(1, 1, 0, 0), (0, 0, 0, lo), (0, 0, 0, hi)]) ∈ (kF t2).2 → CNDok (PSt g) ρ α Γ M (kT t) → CNDok (PSt g) ρ α2 Γ2 M2 (kF t2) → False := by
    intro t t2 α α2 Γ Γ2 M M2 e1 e2 c1 c2
    have B := c1.1
    rw [e1] at B
    have p1 := B (1, lo, hi) List.mem_cons_self
    have p1 : lo ≤ ρ 1 ∧ ρ 1 ≤ hi := p1
    have F : ρ 1 + 0 < lo ∨ hi < ρ 1 + 0 := c2.2 _ e2
    omega
  rcases R1 with ⟨e1, c1⟩ | ⟨e1, c1⟩ <;> rcases R2 with ⟨e2, c2⟩ | ⟨e2, c2⟩ <;> cases e1 <;> cases e2
  · rfl
  · exact (key t t2 α α2 Γ Γ2 M M2 b1 f2 c1 c2).elim
  · exact (key t2 t α2 α Γ2 Γ M2 M b2 f1 c2 c1).elim
  · rfl
