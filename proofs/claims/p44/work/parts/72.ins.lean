/-! THE CHECKER: instructions -/
def GD (Y : Nat → TYE) (PS : PST) (E : List EF) (Γ0 : Nat → Nat) (M0 : MM) (d k : Nat) (Post : Option MV → MM → Prop) (n : Nat) (S : SE) : Prop := ∃ e r, (ops k).drop n = e :: r ∧ ∀ ρ α Γ M ls2 st2, REL Y PS E Γ0 M0 ρ α Γ M S ls2 st2 → Wm d k e.1 ls2 st2 M Post
def TRU (Y : Nat → TYE) (PS : PST) (E : List EF) (Γ0 : Nat → Nat) (M0 : MM) (d k : Nat) (Post : Option MV → MM → Prop) (pc : Nat) (S : SE) : Prop := ∀ ρ α Γ M ls2 st2, REL Y PS E Γ0 M0 ρ α Γ M S ls2 st2 → Wm d k pc ls2 st2 M Post
def SQ (Y : Nat → TYE) (PS : PST) (E : List EF) (Γ0 : Nat → Nat) (M0 : MM) (d k : Nat) (Post : Option MV → MM → Prop) (go : GE) (n : Nat) (e : OE) (r : List OE) : Prop := (∀ n S, go n S = true → GD Y PS E Γ0 M0 d k Post n S) ∧ k < nT ∧ (ops k).drop n = e :: r ∧ rowB k e r (ops k) = true ∧ isNop e.2.1 = false
section
variable {Y : Nat → TYE} {PS : PST} {E : List EF} {Γ0 : Nat → Nat} {M0 : MM} {d k : Nat} {Post : Option MV → MM → Prop} {go : GE} {n : Nat}
theorem SQ.row {e : OE} {r : List OE} (h : SQ Y PS E Γ0 M0 d k Post go n e r) : decode (mcode k) e.1 = .ok (e.2.1, e.2.2.1) ∧ (∀ e2 r2, r = e2 :: r2 → e2.1 = e.1 + e.2.2.1) ∧ rowA k e.1 e.2.1 e.2.2.1 e.2.2.2.1 e.2.2.2.2.1 e.2.2.2.2.2 (ops k) = true := by
  have h4 := h.2.2.2.1
  unfold rowB at h4
  rw [h.2.2.2.2, Bool.false_or, Bool.and_eq_true, Bool.and_eq_true] at h4
  refine ⟨of_decide_eq_true h4.1, fun e2 r2 h5 => ?_, h4.2.2⟩
  subst h5
  exact beq_iff.mp h4.2.1
theorem SQ.next {e : OE} {r : List OE} (h : SQ Y PS E Γ0 M0 d k Post go n e r) {S : SE} (hg : go (n + 1) S = true) : TRU Y PS E Γ0 M0 d k Post (e.1 + e.2.2.1) S := by
  obtain ⟨e2, r2, h5, h6⟩ := h.1 _ _ hg
  have ht : (ops k).drop (n + 1) = r := by
    rw [← List.tail_drop, h.2.2.1]
    rfl
  rw [ht] at h5
  rw [← h.row.2.1 e2 r2 h5]
  exact h6
theorem SQ.goto {e : OE} {r : List OE} (h : SQ Y PS E Γ0 M0 d k Post go n e r) {a : Nat} {off : Int} (ht : tgB e.1 off (dropN a (ops k)) = true) : ∃ tgt : Nat, (e.1 : Int) + off = (tgt : Int) ∧ ∀ {S : SE}, go a S = true → TRU Y PS E Γ0 M0 d k Post tgt S := by
  rw [dropN_eq] at ht
  cases hq : (ops k).drop a with
  | nil => rw [hq] at ht; cases ht
  | cons e2 r2 =>
    rw [hq] at ht
    refine ⟨e2.1, of_decide_eq_true ht, fun hg => ?_⟩
    obtain ⟨e3, r3, h5, h6⟩ := h.1 _ _ hg
    rw [hq] at h5
    cases h5
    exact h6
variable {pc len a1 a2 a3 : Nat} {i : Instr} {r : List OE} {S : SE}
def e_push (v : AV) (go : GE) (n : Nat) (S : SE) : Bool := go (n + 1) (S.1, v :: S.2.1, S.2.2)
theorem q_push {v : AV} {m : MV} (Q : SQ Y PS E Γ0 M0 d k Post go n (pc, i, len, a1, a2, a3) r) (hv : ∀ ρ α Γ, AR ρ α Γ v m) (row : ∀ {ls t : List MV} {M : MM} {Q : Option MV → MM → Prop}, Wm d k (pc + len) ls (m :: t) M Q → Wm d k pc ls t M Q) (h : e_push v go n S = true) : TRU Y PS E Γ0 M0 d k Post pc S :=
  fun ρ α Γ M ls2 st2 r => row (Q.next h ρ α Γ M ls2 (m :: st2) ⟨r.1, r.2.1, r.2.2.1, ⟨hv ρ α Γ, r.2.2.2.1⟩, r.2.2.2.2⟩)
def kOK (t : Nat) (v : AV) : Bool := match t with
  | 0 => isI v
  | 1 => Nat.beq v.1 4
  | _ => Nat.beq v.1 2
theorem kOK_gM {t : Nat} {v : AV} {m : MV} {ρ : Nat → Int} {α Γ : Nat → Nat} (ht : t ≤ 2) (h : kOK t v = true) (r : AR ρ α Γ v m) : gM t m := by
  rcases (by omega : t = 0 ∨ t = 1 ∨ t = 2) with rfl | rfl | rfl
  · exact Or.inl ⟨rfl, _, AR.int h r⟩
  · have h : v.1 = 4 := beq_iff.mp h
    unfold AR at r
    rw [h] at r
    obtain ⟨-, x, r, -⟩ := r
    exact Or.inr (Or.inl ⟨rfl, x, r⟩)
  · have h : v.1 = 2 := beq_iff.mp h
    unfold AR at r
    rw [h] at r
    exact Or.inr (Or.inr ⟨rfl, _, r.1⟩)
def e_load (t a1 : Nat) (go : GE) (n : Nat) (S : SE) : Bool := match S.1[a1]? with
  | some v => kOK t v && go (n + 1) (S.1, v :: S.2.1, S.2.2)
  | none => false
theorem q_load {t : Nat} (ht : t ≤ 2) (Q : SQ Y PS E Γ0 M0 d k Post go n (pc, i, len, a1, a2, a3) r) (row : ∀ (m : MV) {ls t2 : List MV} {M : MM} {Q : Option MV → MM → Prop}, gM t m → ls[a1]? = some m → Wm d k (pc + len) ls (m :: t2) M Q → Wm d k pc ls t2 M Q) (h : e_load t a1 go n S = true) : TRU Y PS E Γ0 M0 d k Post pc S := by
  intro ρ α Γ M ls2 st2 r
  unfold e_load at h
  split at h
  · rename_i v hv
    obtain ⟨h1, h2⟩ := bb2 h
    obtain ⟨m, h3, h4⟩ := r.2.2.1.get a1 hv
    exact row m (kOK_gM ht h1 h4) h3 (Q.next h2 ρ α Γ M ls2 (m :: st2) ⟨r.1, r.2.1, r.2.2.1, ⟨h4, r.2.2.2.1⟩, r.2.2.2.2⟩)
  · cases h
def klE (i : Nat) (ls : List AV) : List AV := match ls[i - 1]? with
  | some v => cond (Nat.beq v.1 4 || Nat.ble 7 v.1) (ls.set (i - 1) aD) ls
  | none => ls
theorem kl_set {ls : List MV} {i : Nat} : kl ls i = ls ∨ kl ls i = ls.set (i - 1) vn := by
  unfold kl
  split
  · exact Or.inr rfl
  · exact Or.inl rfl
theorem klE_ok {ρ : Nat → Int} {α Γ : Nat → Nat} {ls : List AV} {ls2 : List MV} (i : Nat) (r : ARs ρ α Γ ls ls2) : ARs ρ α Γ (klE i ls) (kl ls2 i) := by
  unfold klE
  split
  · rename_i v hv
    obtain ⟨m, h3, h4⟩ := r.get (i - 1) hv
    cases hc : (Nat.beq v.1 4 || Nat.ble 7 v.1) with
    | true =>
      rw [cond_true]
      rcases kl_set (ls := ls2) (i := i) with e | e
      · rw [e]
        have e2 : ls2 = ls2.set (i - 1) m := by
          apply List.ext_getElem?
          intro j
          rw [List.getElem?_set]
          split
          · rename_i hj
            subst hj
            split
            · rw [h3]
            · rename_i hl
              rw [List.getElem?_eq_none (by omega)]
          · rfl
        rw [e2]
        exact r.set (i - 1) (show AR ρ α Γ aD m from trivial)
      · rw [e]
        exact r.set (i - 1) (show AR ρ α Γ aD vn from trivial)
    | false =>
      rw [cond_false]
      rw [Bool.or_eq_false_iff] at hc
      have e : kl ls2 i = ls2 := by
        unfold kl
        rw [h3]
        split
        · rename_i x hx
          cases hx
          exfalso
          obtain ⟨t, b, a, c⟩ := v
          match t, h4, hc with
          | 0, h4, _ => cases (show (vl x : MV) = vi c from h4)
          | 1, h4, _ => cases (show (vl x : MV) = vi _ from h4)
          | 2, h4, _ => cases (show (vl x : MV) = vr _ ∧ _ from h4).1
          | 3, h4, _ =>
            rcases (show (vl x : MV) = vn ∨ ((vl x : MV) = vr _ ∧ _) from h4) with h | h
            · cases h
            · cases h.1
          | 4, _, hc => exact absurd (show Nat.beq 4 4 = false from hc.1) (by decide)
          | 5, h4, _ => cases (show (vl x : MV) = vn from h4)
          | 6, h4, _ => cases (show (vl x : MV) = vr _ from h4)
          | t + 7, _, hc =>
            have h9 : Nat.ble 7 (t + 7) = false := hc.2
            rw [ble_iff.mpr (by omega)] at h9
            cases h9
        · rfl
      rw [e]
      exact r
  · rename_i hv
    have e : kl ls2 i = ls2 := by
      unfold kl
      have : ls2[i - 1]? = none := by
        rw [List.getElem?_eq_none_iff] at hv ⊢
        rw [← r.len]
        exact hv
      rw [this]
    rw [e]
    exact r
theorem klE_len (i : Nat) (ls : List AV) : (klE i ls).length = ls.length := by
  unfold klE
  split
  · cases (Nat.beq _ 4 || Nat.ble 7 _) <;> simp
  · rfl
def e_store (t a1 : Nat) (go : GE) (n : Nat) (S : SE) : Bool := match S.2.1 with
  | v :: st => kOK t v && (Nat.ble (Nat.succ a1) S.1.length && go (n + 1) ((klE a1 S.1).set a1 v, st, S.2.2))
  | [] => false
theorem q_store {t : Nat} (ht : t ≤ 2) (Q : SQ Y PS E Γ0 M0 d k Post go n (pc, i, len, a1, a2, a3) r) (row : ∀ (m : MV) {ls t2 : List MV} {M : MM} {Q : Option MV → MM → Prop}, gM t m → a1 < ls.length → Wm d k (pc + len) (st1 ls a1 m) t2 M Q → Wm d k pc ls (m :: t2) M Q) (h : e_store t a1 go n S = true) : TRU Y PS E Γ0 M0 d k Post pc S := by
  obtain ⟨ls, st, S3⟩ := S
  intro ρ α Γ M ls2 st2 r
  match st, h, r with
  | [], h, _ => cases h
  | v :: st, h, r =>
    obtain ⟨h1, h2⟩ := bb2 (show (kOK t v && (Nat.ble (Nat.succ a1) ls.length && go (n + 1) ((klE a1 ls).set a1 v, st, S3))) = true from h)
    obtain ⟨h2, h3⟩ := bb2 h2
    obtain ⟨m, t2, rfl, h5, h6⟩ := ARs.cons r.2.2.2.1
    have hl : ls.length = ls2.length := ARs.len r.2.2.1
    exact row m (kOK_gM ht h1 h5) (by rw [← hl]; exact ble_iff.mp h2) (Q.next h3 ρ α Γ M _ t2 ⟨r.1, r.2.1, (klE_ok a1 r.2.2.1).set a1 h5, h6, r.2.2.2.2⟩)
def e_lstore (a1 : Nat) (go : GE) (n : Nat) (S : SE) : Bool := match S.2.1 with
  | v :: st => Nat.beq v.1 4 && (Nat.ble (Nat.succ (Nat.succ a1)) S.1.length && go (n + 1) (((klE a1 S.1).set a1 v).set (a1 + 1) aD, st, S.2.2))
  | [] => false
theorem q_lstore (Q : SQ Y PS E Γ0 M0 d k Post go n (pc, i, len, a1, a2, a3) r) (row : ∀ (x : Int) {ls t2 : List MV} {M : MM} {Q : Option MV → MM → Prop}, a1 + 1 < ls.length → Wm d k (pc + len) (st2 ls a1 (vl x)) t2 M Q → Wm d k pc ls (vl x :: t2) M Q) (h : e_lstore a1 go n S = true) : TRU Y PS E Γ0 M0 d k Post pc S := by
  obtain ⟨ls, st, S3⟩ := S
  intro ρ α Γ M ls2 st2 r
  match st, h, r with
  | [], h, _ => cases h
  | v :: st, h, r =>
    obtain ⟨h1, h2⟩ := bb2 (show (Nat.beq v.1 4 && (Nat.ble (Nat.succ (Nat.succ a1)) ls.length && go (n + 1) (((klE a1 ls).set a1 v).set (a1 + 1) aD, st, S3))) = true from h)
    obtain ⟨h2, h3⟩ := bb2 h2
    obtain ⟨m, t2, rfl, h5, h6⟩ := ARs.cons r.2.2.2.1
    rcases kOK_gM (t := 1) (by omega) h1 h5 with ⟨q, -⟩ | ⟨-, x, rfl⟩ | ⟨q, -⟩ <;> first | (cases q; done) | skip
    have hl : ls.length = ls2.length := ARs.len r.2.2.1
    exact row x (by rw [← hl]; exact ble_iff.mp h2) (Q.next h3 ρ α Γ M _ t2 ⟨r.1, r.2.1, ((klE_ok a1 r.2.2.1).set a1 h5).set (a1 + 1) (show AR ρ α Γ aD vn from trivial), h6, r.2.2.2.2⟩)
/-! numbers made -/
def putV (o : Option (AV ⊕ (Int × Int))) (S : SE) (kk : AV → SE → Bool) : Bool := match o with
  | some (.inl v) => isI v && kk v S
  | some (.inr p) => cond (eqB p.1 p.2) (kk (aC p.1) S) (nmI p S kk)
  | none => false
def RVo (ρ : Nat → Int) (o : Option (AV ⊕ (Int × Int))) (x : Int) : Prop := (∀ v, o = some (.inl v) → iv ρ v = x) ∧ ∀ p, o = some (.inr p) → p.1 ≤ x ∧ x ≤ p.2
theorem putV_ok {ρ : Nat → Int} {α Γ : Nat → Nat} {M : MM} {ls2 st2 : List MV} {o : Option (AV ⊕ (Int × Int))} {kk : AV → SE → Bool} (h : putV o S kk = true) (r : REL Y PS E Γ0 M0 ρ α Γ M S ls2 st2) {x : Int} (hx : o ≠ none → RVo ρ o x) : ∃ ρ2 v S2, kk v S2 = true ∧ isI v = true ∧ iv ρ2 v = x ∧ S2.1 = S.1 ∧ S2.2.1 = S.2.1 ∧ S2.2.2.2 = S.2.2.2 ∧ REL Y PS E Γ0 M0 ρ2 α Γ M S2 ls2 st2 := by
  match o, h, hx with
  | none, h, _ => cases h
  | some (.inl v), h, hx =>
    obtain ⟨h1, h2⟩ := bb2 (show (isI v && kk v S) = true from h)
    exact ⟨ρ, v, S, h2, h1, (hx (by intro q; cases q)).1 v rfl, rfl, rfl, rfl, r⟩
  | some (.inr p), h, hx =>
    have h : cond (eqB p.1 p.2) (kk (aC p.1) S) (nmI p S kk) = true := h
    have hp := (hx (by intro q; cases q)).2 p rfl
    cases he : eqB p.1 p.2 with
    | true =>
      rw [he, cond_true] at h
      rw [eqB_iff] at he
      refine ⟨ρ, aC p.1, S, h, rfl, ?_, rfl, rfl, rfl, r⟩
      show p.1 = x
      omega
    | false =>
      rw [he, cond_false] at h
      obtain ⟨ρ2, v, S2, b1, b2, b3, b4, -, -, b7⟩ := nmI_ok h r hp.1 hp.2
      exact ⟨ρ2, v, S2, b1, b2, b3, by rw [b4], by rw [b4], by rw [b4], b7⟩
/-- the fact id (number, number, what the instruction makes of them) -/
def smC (x : AV) : Bool := Nat.beq x.1 0 && ltB x.2.2.2 1000000
def dfB (id : Nat) (x y : AV) : Bool := Nat.beq id 0 || cond (Nat.ble id 24) (smC x || smC y) (Nat.beq x.1 0 && Nat.beq y.1 0)
def dfF (id : Nat) (x y v : AV) : List PFE := cond (dfB id x y) [] [(id, [x, y, v])]
def e_bin (id : Nat) (f : BC → AV → AV → Option (AV ⊕ (Int × Int))) (go : GE) (n : Nat) (S : SE) : Bool := match S.2.1 with
  | y :: x :: t => (isI y && isI x) && putV (f S.2.2.1 y x) S (fun v S2 => go (n + 1) (S.1, v :: t, S2.2.2.1, S2.2.2.2.1, S2.2.2.2.2.1, dfF id x y v ++ S2.2.2.2.2.2.1, S2.2.2.2.2.2.2))
  | _ => false
/-- f tells what op is -/
def FOK (f : BC → AV → AV → Option (AV ⊕ (Int × Int))) (op : Int → Int → Int) (nz : Bool) : Prop := ∀ (ρ : Nat → Int) (C : BC) (y x : AV), BO ρ C → isI y = true → isI x = true → f C y x ≠ none → RVo ρ (f C y x) (op (iv ρ x) (iv ρ y)) ∧ (nz = true → iv ρ y ≠ 0)
theorem q_binP {id : Nat} {f : BC → AV → AV → Option (AV ⊕ (Int × Int))} {op : Int → Int → Int} (hdf : id = 0 ∨ ∀ (x y : Int) (Γ : Nat → Nat) (M : MM), PS id [vi x, vi y, vi (op x y)] Γ M) {nz : Bool} {P : List MV → Prop} (hP : ∀ ρ α Γ t2, ARs ρ α Γ (S.2.1.drop 2) t2 → P t2) (hf : FOK f op nz) (Q : SQ Y PS E Γ0 M0 d k Post go n (pc, i, len, a1, a2, a3) r) (row : ∀ {ls t : List MV} {M : MM} {Q : Option MV → MM → Prop} {x y : Int}, P t → (nz = true → y ≠ 0) → Wm d k (pc + len) ls (vi (op x y) :: t) M Q → Wm d k pc ls (vi y :: vi x :: t) M Q) (h : e_bin id f go n S = true) : TRU Y PS E Γ0 M0 d k Post pc S := by
  obtain ⟨ls, st, S3⟩ := S
  intro ρ α Γ M ls2 st2 r
  match st, h, r with
  | [], h, _ => cases h
  | [_], h, _ => cases h
  | y :: x :: t, h, r =>
    obtain ⟨h1, h2⟩ := bb2 (show ((isI y && isI x) && putV (f S3.1 y x) (ls, y :: x :: t, S3) (fun v S2 => go (n + 1) (ls, v :: t, S2.2.2.1, S2.2.2.2.1, S2.2.2.2.2.1, dfF id x y v ++ S2.2.2.2.2.2.1, S2.2.2.2.2.2.2))) = true from h)
    obtain ⟨h3, h4⟩ := bb2 h1
    have hn : f S3.1 y x ≠ none := fun q => by rw [q] at h2; cases h2
    have hfo := hf ρ S3.1 y x r.2.1 h3 h4 hn
    obtain ⟨my, t1, rfl, h5, h6⟩ := ARs.cons r.2.2.2.1
    obtain ⟨mx, t2, rfl, h7, h8⟩ := ARs.cons h6
    cases h5.int h3
    cases h7.int h4
    obtain ⟨ρ2, v, S2, b1, b2, b3, b4, b5, b6, b7⟩ := putV_ok h2 r (fun _ => hfo.1)
    obtain ⟨ls3, st3, S4⟩ := S2
    have b4 : ls3 = ls := b4
    have b5 : st3 = y :: x :: t := b5
    subst b4
    subst b5
    obtain ⟨my, t3, e, hy2, h10⟩ := ARs.cons b7.2.2.2.1
    cases e
    obtain ⟨mx, t4, e, hx2, h12⟩ := ARs.cons h10
    cases e
    refine row (hP ρ α Γ _ h8) hfo.2 (Q.next b1 ρ2 α Γ M ls2 _ ⟨b7.1, b7.2.1, b7.2.2.1, ⟨?_, h12⟩, b7.2.2.2.2.1, fun p hp => ?_, b7.2.2.2.2.2.2⟩)
    · rw [← b3]
      exact AR.ofI b2
    · rcases List.mem_append.mp (show p ∈ dfF id x y v ++ S4.2.2.2.1 from hp) with h9 | h9
      · rcases hdf with h0 | hdf
        · subst h0
          exact absurd (show p ∈ ([] : List PFE) from h9) List.not_mem_nil
        · have h9 : p ∈ [(id, [x, y, v])] := by
            unfold dfF at h9
            cases hc : dfB id x y with
            | true => rw [hc, cond_true] at h9; exact absurd h9 List.not_mem_nil
            | false => rw [hc, cond_false] at h9; exact h9
          cases List.mem_singleton.mp h9
          show PS id [valO ρ2 α x, valO ρ2 α y, valO ρ2 α v] Γ M
          have ey : valO ρ2 α y = vi (iv ρ y) := by rw [valO_int h3]; exact (hy2.int h3).symm
          have ex : valO ρ2 α x = vi (iv ρ x) := by rw [valO_int h4]; exact (hx2.int h4).symm
          rw [ex, ey, valO_int b2, b3]
          exact hdf _ _ _ _
      · exact b7.2.2.2.2.2.1 p h9
theorem q_bin {id : Nat} {f : BC → AV → AV → Option (AV ⊕ (Int × Int))} {op : Int → Int → Int} (hdf : id = 0 ∨ ∀ (x y : Int) (Γ : Nat → Nat) (M : MM), PS id [vi x, vi y, vi (op x y)] Γ M) {nz : Bool} (hf : FOK f op nz) (Q : SQ Y PS E Γ0 M0 d k Post go n (pc, i, len, a1, a2, a3) r) (row : ∀ {ls t : List MV} {M : MM} {Q : Option MV → MM → Prop} {x y : Int}, (nz = true → y ≠ 0) → Wm d k (pc + len) ls (vi (op x y) :: t) M Q → Wm d k pc ls (vi y :: vi x :: t) M Q) (h : e_bin id f go n S = true) : TRU Y PS E Γ0 M0 d k Post pc S :=
  q_binP hdf (P := fun _ => True) (fun _ _ _ _ _ => trivial) hf Q (fun _ hz kk => row hz kk) h
def e_un (f : BC → AV → Option (AV ⊕ (Int × Int))) (go : GE) (n : Nat) (S : SE) : Bool := match S.2.1 with
  | x :: t => isI x && putV (f S.2.2.1 x) S (fun v S2 => go (n + 1) (S.1, v :: t, S2.2.2))
  | _ => false
def FOK1 (f : BC → AV → Option (AV ⊕ (Int × Int))) (op : Int → Int) : Prop := ∀ (ρ : Nat → Int) (C : BC) (x : AV), BO ρ C → isI x = true → f C x ≠ none → RVo ρ (f C x) (op (iv ρ x))
theorem q_unP {f : BC → AV → Option (AV ⊕ (Int × Int))} {op : Int → Int} {P : List MV → Prop} (hP : ∀ ρ α Γ t2, ARs ρ α Γ (S.2.1.drop 1) t2 → P t2) (hf : FOK1 f op) (Q : SQ Y PS E Γ0 M0 d k Post go n (pc, i, len, a1, a2, a3) r) (row : ∀ {ls t : List MV} {M : MM} {Q : Option MV → MM → Prop} {x : Int}, P t → Wm d k (pc + len) ls (vi (op x) :: t) M Q → Wm d k pc ls (vi x :: t) M Q) (h : e_un f go n S = true) : TRU Y PS E Γ0 M0 d k Post pc S := by
  obtain ⟨ls, st, S3⟩ := S
  intro ρ α Γ M ls2 st2 r
  match st, h, r with
  | [], h, _ => cases h
  | x :: t, h, r =>
    obtain ⟨h4, h2⟩ := bb2 (show (isI x && putV (f S3.1 x) (ls, x :: t, S3) (fun v S2 => go (n + 1) (ls, v :: t, S2.2.2))) = true from h)
    have hn : f S3.1 x ≠ none := fun q => by rw [q] at h2; cases h2
    have hfo := hf ρ S3.1 x r.2.1 h4 hn
    obtain ⟨mx, t2, rfl, h7, h8⟩ := ARs.cons r.2.2.2.1
    cases h7.int h4
    obtain ⟨ρ2, v, S2, b1, b2, b3, b4, b5, b6, b7⟩ := putV_ok h2 r (fun _ => hfo)
    obtain ⟨ls3, st3, S4⟩ := S2
    have b4 : ls3 = ls := b4
    have b5 : st3 = x :: t := b5
    subst b4
    subst b5
    refine row (hP ρ α Γ _ h8) (Q.next b1 ρ2 α Γ M ls2 _ ⟨b7.1, b7.2.1, b7.2.2.1, ⟨?_, ?_⟩, b7.2.2.2.2⟩)
    · rw [← b3]
      exact AR.ofI b2
    · obtain ⟨my, t3, e, -, h10⟩ := ARs.cons b7.2.2.2.1
      cases e
      exact h10
theorem q_un {f : BC → AV → Option (AV ⊕ (Int × Int))} {op : Int → Int} (hf : FOK1 f op) (Q : SQ Y PS E Γ0 M0 d k Post go n (pc, i, len, a1, a2, a3) r) (row : ∀ {ls t : List MV} {M : MM} {Q : Option MV → MM → Prop} {x : Int}, Wm d k (pc + len) ls (vi (op x) :: t) M Q → Wm d k pc ls (vi x :: t) M Q) (h : e_un f go n S = true) : TRU Y PS E Γ0 M0 d k Post pc S :=
  q_unP (P := fun _ => True) (fun _ _ _ _ _ => trivial) hf Q (fun _ kk => row kk) h
/-- with a fact of what comes of the number -/
def e_unF (id : Nat) (f : BC → AV → Option (AV ⊕ (Int × Int))) (go : GE) (n : Nat) (S : SE) : Bool := match S.2.1 with
  | x :: t => isI x && putV (f S.2.2.1 x) S (fun v S2 => go (n + 1) (S.1, v :: t, S2.2.2.1, S2.2.2.2.1, S2.2.2.2.2.1, (id, [x, v]) :: S2.2.2.2.2.2.1, S2.2.2.2.2.2.2))
  | _ => false
theorem q_unF {id : Nat} {f : BC → AV → Option (AV ⊕ (Int × Int))} {op : Int → Int} (hdf : ∀ (x : Int) (Γ : Nat → Nat) (M : MM), PS id [vi x, vi (op x)] Γ M) {P : List MV → Prop} (hP : ∀ ρ α Γ t2, ARs ρ α Γ (S.2.1.drop 1) t2 → P t2) (hf : FOK1 f op) (Q : SQ Y PS E Γ0 M0 d k Post go n (pc, i, len, a1, a2, a3) r) (row : ∀ {ls t : List MV} {M : MM} {Q : Option MV → MM → Prop} {x : Int}, P t → Wm d k (pc + len) ls (vi (op x) :: t) M Q → Wm d k pc ls (vi x :: t) M Q) (h : e_unF id f go n S = true) : TRU Y PS E Γ0 M0 d k Post pc S := by
  obtain ⟨ls, st, S3⟩ := S
  intro ρ α Γ M ls2 st2 r
  match st, h, r with
  | [], h, _ => cases h
  | x :: t, h, r =>
    obtain ⟨h4, h2⟩ := bb2 (show (isI x && putV (f S3.1 x) (ls, x :: t, S3) (fun v S2 => go (n + 1) (ls, v :: t, S2.2.2.1, S2.2.2.2.1, S2.2.2.2.2.1, (id, [x, v]) :: S2.2.2.2.2.2.1, S2.2.2.2.2.2.2))) = true from h)
    have hn : f S3.1 x ≠ none := fun q => by rw [q] at h2; cases h2
    have hfo := hf ρ S3.1 x r.2.1 h4 hn
    obtain ⟨mx, t2, rfl, h7, h8⟩ := ARs.cons r.2.2.2.1
    cases h7.int h4
    obtain ⟨ρ2, v, S2, b1, b2, b3, b4, b5, b6, b7⟩ := putV_ok h2 r (fun _ => hfo)
    obtain ⟨ls3, st3, S4⟩ := S2
    have b4 : ls3 = ls := b4
    have b5 : st3 = x :: t := b5
    subst b4
    subst b5
    obtain ⟨my, t3, e, hx2, h10⟩ := ARs.cons b7.2.2.2.1
    cases e
    refine row (hP ρ α Γ _ h8) (Q.next b1 ρ2 α Γ M ls2 _ ⟨b7.1, b7.2.1, b7.2.2.1, ⟨?_, h10⟩, b7.2.2.2.2.1, fun p hp => ?_, b7.2.2.2.2.2.2⟩)
    · rw [← b3]
      exact AR.ofI b2
    · rcases List.mem_cons.mp (show p ∈ (id, [x, v]) :: S4.2.2.2.1 from hp) with h9 | h9
      · cases h9
        show PS id [valO ρ2 α x, valO ρ2 α v] Γ M
        have ex : valO ρ2 α x = vi (iv ρ x) := by rw [valO_int h4]; exact (hx2.int h4).symm
        rw [ex, valO_int b2, b3]
        exact hdf _ _ _
      · exact b7.2.2.2.2.2.1 p h9
def e_iinc (f : BC → AV → Option (AV ⊕ (Int × Int))) (a1 : Nat) (go : GE) (n : Nat) (S : SE) : Bool := match S.1[a1]? with
  | some x => isI x && putV (f S.2.2.1 x) S (fun v S2 => go (n + 1) ((klE a1 S.1).set a1 v, S.2.1, S2.2.2))
  | none => false
theorem q_iinc {f : BC → AV → Option (AV ⊕ (Int × Int))} {op : Int → Int} (hf : FOK1 f op) (Q : SQ Y PS E Γ0 M0 d k Post go n (pc, i, len, a1, a2, a3) r) (row : ∀ {ls t : List MV} {M : MM} {Q : Option MV → MM → Prop} {x : Int}, ls[a1]? = some (vi x) → Wm d k (pc + len) (st1 ls a1 (vi (op x))) t M Q → Wm d k pc ls t M Q) (h : e_iinc f a1 go n S = true) : TRU Y PS E Γ0 M0 d k Post pc S := by
  obtain ⟨ls, st, S3⟩ := S
  intro ρ α Γ M ls2 st2 r
  have h : (match ls[a1]? with
    | some x => isI x && putV (f S3.1 x) (ls, st, S3) (fun v S2 => go (n + 1) ((klE a1 ls).set a1 v, st, S2.2.2))
    | none => false) = true := h
  split at h
  · rename_i x hx
    obtain ⟨h4, h2⟩ := bb2 h
    have hn : f S3.1 x ≠ none := fun q => by rw [q] at h2; cases h2
    have hfo := hf ρ S3.1 x r.2.1 h4 hn
    obtain ⟨m, h7, h8⟩ := ARs.get a1 r.2.2.1 hx
    cases h8.int h4
    obtain ⟨ρ2, v, S2, b1, b2, b3, b4, b5, b6, b7⟩ := putV_ok h2 r (fun _ => hfo)
    obtain ⟨ls3, st3, S4⟩ := S2
    have b4 : ls3 = ls := b4
    have b5 : st3 = st := b5
    subst b4
    subst b5
    refine row h7 (Q.next b1 ρ2 α Γ M _ st2 ⟨b7.1, b7.2.1, (klE_ok a1 b7.2.2.1).set a1 ?_, b7.2.2.2.1, b7.2.2.2.2⟩)
    rw [← b3]
    exact AR.ofI b2
  · cases h
end
