/-! THE CHECKER: calls and ends are sound -/
section
variable {Y : Nat → TYE} {PS : PST} {dep : Nat → List EF} {E : List EF} {Γ0 : Nat → Nat} {M0 : MM} {d k : Nat} {Post : Option MV → MM → Prop} {go : GE} {n : Nat}
variable {pc len a1 a2 a3 : Nat} {i : Instr} {r : List OE} {S : SE}
theorem noRes {ρc : Nat → Int} {αc Γ : Nat → Nat} {M : MM} {vs : List AV} {ps : List PFE} {x : Int} (hx : wfP vs aD ps = true) (h : PFs PS ρc αc Γ M ps) : PFs PS (upI ρc vs.length x) αc Γ M ps := by
  intro p hp
  have := h p hp
  have e : p.2.map (valO (upI ρc vs.length x) αc) = p.2.map (valO ρc αc) := by
    apply List.map_congr_left
    intro v hv
    unfold wfP at hx
    rw [List.all_eq_true] at hx
    have q := hx p hp
    rw [List.all_eq_true] at q
    have q := q v hv
    obtain ⟨tg, j, a, b⟩ := v
    match tg, q with
    | 0, _ => rfl
    | 1, q =>
      have q : cond (Nat.beq j vs.length) (isI aD) (match vs[j]? with
        | some u => isI u
        | none => false) = true := q
      show vi (upI ρc vs.length x j + b) = vi (ρc j + b)
      unfold upI
      cases hb : Nat.beq j vs.length with
      | true => rw [hb, cond_true] at q; cases (show false = true from q)
      | false => rw [if_neg (fun q => by rw [beq_iff.mpr q] at hb; cases hb)]
    | 2, _ => rfl
    | 3, q => cases (show false = true from q)
    | 4, _ => rfl
    | t + 5, q => cases (show false = true from q)
  rw [e]
  exact this
theorem res_ok {t : KT} {vs rest ls : List AV} {S3 : S3T} {ρ : Nat → Int} {α Γ : Nat → Nat} {M : MM} {ls2 t2 : List MV} {ρc : Nat → Int} {αc : Nat → Nat} {ret : Option MV} (h : e_res t vs rest ls S3 go n = true) (hL : LK ρ α ρc αc vs) (hlen : vs.length = (kArgs t).length) (hw : wfP vs aD (kT t).2 = true ∧ wfP vs aD (kF t).2 = true) (hr : RESok PS t ρc αc Γ M ret) (r : REL Y PS E Γ0 M0 ρ α Γ M (ls, rest, S3) ls2 t2) : ∃ ρ2 S1, go (n + 1) S1 = true ∧ REL Y PS E Γ0 M0 ρ2 α Γ M S1 ls2 (ret.toList ++ t2) := by
  unfold e_res at h
  unfold RESok at hr
  split at h
  · rename_i hk
    rw [hk] at hr
    obtain ⟨h1, h2⟩ := bb2 h
    obtain ⟨rfl, hp⟩ := hr
    refine ⟨ρ, _, h2, r.1, r.2.1, r.2.2.1, r.2.2.2.1, r.2.2.2.2.1, fun p hp2 => ?_, r.2.2.2.2.2.2⟩
    rcases List.mem_append.mp (show p ∈ subP vs aD (kPost t) ++ S3.2.2.2.1 from hp2) with h9 | h9
    · exact ((subP_ok (PS := PS) (x := 0) hL (fun q => (by cases (show false = true from q))) h1).mpr (noRes h1 hp)) p h9
    · exact r.2.2.2.2.2.1 p h9
  · rename_i hk
    rw [hk] at hr
    obtain ⟨h1, h2⟩ := bb2 h
    obtain ⟨x, rfl, l1, l2, hp⟩ := hr
    obtain ⟨ρ2, w, S2, b1, b2, b3, b4, b5, b6, b7⟩ := nmI_ok h2 r l1 l2
    obtain ⟨b1a, b8⟩ := bb2 b1
    have hL2 : LK ρ2 α ρc αc vs := fun i u hu => by
      refine ⟨fun hI => ?_, (hL i u hu).2⟩
      rw [List.all_eq_true] at h1
      rw [b6 u (h1 u (List.mem_of_getElem? hu)) hI]
      exact (hL i u hu).1 hI
    rw [← hlen] at hp
    subst b4
    refine ⟨ρ2, _, b8, b7.1, b7.2.1, b7.2.2.1, ⟨?_, b7.2.2.2.1⟩, b7.2.2.2.2.1, fun p hp2 => ?_, b7.2.2.2.2.2.2⟩
    · rw [← b3]
      exact AR.ofI b2
    · rcases List.mem_append.mp (show p ∈ subP vs w (kPost t) ++ S3.2.2.2.1 from hp2) with h9 | h9
      · exact ((subP_ok (PS := PS) (x := x) hL2 (fun _ => b3) b1a).mpr hp) p h9
      · exact b7.2.2.2.2.2.1 p h9
  · rename_i hk
    rw [hk] at hr
    obtain ⟨h1, h2⟩ := bb2 h
    rcases hr with ⟨rfl, hc⟩ | ⟨rfl, hc⟩
    · obtain ⟨S1, q1, q2⟩ := cnd_ok h1 hL hc hw.1 r
      exact ⟨ρ, S1, q1, q2⟩
    · obtain ⟨S1, q1, q2⟩ := cnd_ok h2 hL hc hw.2 r
      exact ⟨ρ, S1, q1, q2⟩
  · rename_i k0 k1 k2
    have hr2 : ∃ x, ret = some (vl x) := by
      split at hr
      · exact absurd (by assumption) k0
      · exact absurd (by assumption) k1
      · exact absurd (by assumption) k2
      · exact hr
    obtain ⟨x, rfl⟩ := hr2
    exact ⟨ρ, _, h, r.1, r.2.1, r.2.2.1, ⟨⟨fun q => (by cases q), x, rfl, fun q => (by cases q)⟩, r.2.2.2.1⟩, r.2.2.2.2⟩
def e_call2 (dep : Nat → List EF) (E : List EF) (dk : Nat) (t : KT) (vs rest ls : List AV) (S3 : S3T) (go : GE) (n : Nat) : Bool :=
  ((stB rest && Nat.ble (wdsE rest) 8) && ((argK S3.1 (kB t) 0 vs (kArgs t) && Nat.ble (kB t).length vs.length) && (Nat.ble (kD t) dk && efsIn (kEff t) E))) &&
  (((wfP vs aD (kT t).2 && wfP vs aD (kF t).2) && (Nat.beq vs.length (kArgs t).length && (wfP vs aD (kPre t) && allD S3.1 S3.2.2.1 (subP vs aD (kPre t)) S3.2.2.2.1))) &&
   e_res t vs rest ls (S3.1, S3.2.1, clM (kEff t) S3.2.2.1, clP dep (kEff t) S3.2.2.2.1, S3.2.2.2.2.1 + kAo t, S3.2.2.2.2.2 + kAs t) go n)
theorem call_ok (hPS : PSok Y PS dep) (hW : PSw PS) {dk : Nat} (hdk : dk ≤ d) {t : KT} (hK : KOK Y PS t) {vs rest ls st : List AV} {S3 : S3T} {ρ : Nat → Int} {α Γ : Nat → Nat} {M : MM} {ls2 ms gs t2 st2 : List MV} (hgn : gs.length = gN t) (h : e_call2 dep E dk t vs rest ls S3 go n = true) (hvs : ARs ρ α Γ vs (ms ++ gs)) (hrest : ARs ρ α Γ rest t2) (r : REL Y PS E Γ0 M0 ρ α Γ M (ls, st, S3) ls2 st2) :
    wds t2 ≤ 8 ∧ ∃ Q1, Rm d (kM t) ms M Q1 ∧ ∀ ret M1, Q1 ret M1 → ∃ ρ2 Γ2 S1, go (n + 1) S1 = true ∧ REL Y PS E Γ0 M0 ρ2 α Γ2 M1 S1 ls2 (ret.toList ++ t2) := by
  obtain ⟨h1, h2⟩ := bb2 h
  obtain ⟨h1, h3⟩ := bb2 h1
  obtain ⟨hst, hwd⟩ := bb2 h1
  obtain ⟨h3, h4⟩ := bb2 h3
  obtain ⟨harg, hbl⟩ := bb2 h3
  obtain ⟨hD, hE⟩ := bb2 h4
  obtain ⟨h2, hres⟩ := bb2 h2
  obtain ⟨h2, h5⟩ := bb2 h2
  obtain ⟨hwT, hwF⟩ := bb2 h2
  obtain ⟨hlen, h5⟩ := bb2 h5
  obtain ⟨hwp, hpre⟩ := bb2 h5
  have hlen := beq_iff.mp hlen
  have hbl := ble_iff.mp hbl
  refine ⟨by rw [wds_ok hst hrest]; exact ble_iff.mp hwd, ?_⟩
  have hL := LK_C ρ α vs
  obtain ⟨ha, hb⟩ := argK_ok (ρc := rhoC ρ vs) (αc := alC α vs) r.2.1 0 vs (kArgs t) (ms ++ gs) harg hvs (fun j v hv => by
    rw [Nat.zero_add]
    unfold rhoC alC
    rw [hv]
    exact ⟨rfl, rfl⟩)
  have hBO : BO (rhoC ρ vs) (kB t) := by
    intro i
    by_cases hi : i < vs.length
    · have := hb i hi
      rw [Nat.zero_add] at this
      exact this
    · have e1 : rhoC ρ vs i = 0 := by
        unfold rhoC
        rw [List.getElem?_eq_none (by omega)]
      have e2 : bnd (kB t) i = (-2147483648, 2147483647) := by
        unfold bnd
        rw [List.getD_eq_getElem?_getD, List.getElem?_eq_none (by omega)]
        rfl
      rw [e1, e2]
      exact ⟨by show (-2147483648 : Int) ≤ 0; omega, by show (0 : Int) ≤ 2147483647; omega⟩
  have hp0 : PFs PS (rhoC ρ vs) (alC α vs) Γ M (kPre t) := by
    have q := allD_ok hW r.2.1 r.2.2.2.2.1 hpre r.2.2.2.2.2.1
    have q2 := (subP_ok (PS := PS) (x := rhoC ρ vs vs.length) hL (fun q => (by cases (show false = true from q))) hwp).mp q
    have e : upI (rhoC ρ vs) vs.length (rhoC ρ vs vs.length) = rhoC ρ vs := by
      funext j
      unfold upI
      split
      · rename_i hj
        rw [hj]
      · rfl
    rw [e] at q2
    exact q2
  refine ⟨_, hK d (rhoC ρ vs) (alC α vs) Γ M ms gs hgn (Nat.le_trans (ble_iff.mp hD) hdk) r.1 hBO ha hp0, fun ret M1 hq => ?_⟩
  obtain ⟨Γ2, q1, q2, q3, q4, q5, q6⟩ := hq
  have r0 : REL Y PS E Γ0 M0 ρ α Γ M (ls, rest, S3) ls2 t2 := ⟨r.1, r.2.1, r.2.2.1, hrest, r.2.2.2.2⟩
  have r2 := REL.frm hPS r0 q1 q2 q3 hE q4 q5
  obtain ⟨ρ2, S1, b1, b2⟩ := res_ok hres hL hlen ⟨hwT, hwF⟩ q6 r2
  exact ⟨ρ2, Γ2, S1, b1, b2⟩
/-- our own number: the one that the latest fact 77 speaks of (or that the contract's first fact tells) -/
def gid (t : KT) : Nat := match kPre t with
  | [] => 77
  | p :: _ => cond ((Nat.ble 450 p.1 && Nat.ble p.1 459) || (Nat.ble 950 p.1 && Nat.ble p.1 999)) p.1 77
def gvs (t : KT) (S : SE) : List AV := (List.range (gN t)).map fun i => srcF S (gid t) (i + 1)
theorem srcF_ok {PS : PST} {S : SE} {ρ : Nat → Int} {α Γ : Nat → Nat} (fi j : Nat) : ∃ m, AR ρ α Γ (srcF S fi j) m := by
  unfold srcF
  split
  · rename_i p _
    cases hc : isI (p.2.getD j aD) with
    | true => exact ⟨_, AR.ofI hc⟩
    | false => exact ⟨vn, trivial⟩
  · exact ⟨vn, trivial⟩
theorem gvs_ok {PS : PST} {t : KT} (_ : Nat.ble (gN t) 9 = true) {S : SE} {ρ : Nat → Int} {α Γ : Nat → Nat} : ∃ gs, ARs ρ α Γ (gvs t S) gs ∧ gs.length = gN t := by
  have key : ∀ l : List Nat, ∃ gs, ARs ρ α Γ (l.map fun i => srcF S (gid t) (i + 1)) gs ∧ gs.length = l.length := by
    intro l
    induction l with
    | nil => exact ⟨[], trivial, rfl⟩
    | cons i l ih =>
      obtain ⟨gs, h1, h2⟩ := ih
      obtain ⟨m, hm⟩ := srcF_ok (PS := PS) (S := S) (ρ := ρ) (α := α) (Γ := Γ) (gid t) (i + 1)
      exact ⟨m :: gs, ⟨hm, h1⟩, by rw [List.length_cons, List.length_cons, h2]⟩
  obtain ⟨gs, h1, h2⟩ := key (List.range (gN t))
  exact ⟨gs, h1, by rw [h2, List.length_range]⟩
def e_call (dep : Nat → List EF) (E : List EF) (dk : Nat) (t : KT) (np : Nat) (go : GE) (n : Nat) (S : SE) : Bool := (Nat.ble np S.2.1.length && Nat.ble (gN t) 9) && e_call2 dep E dk t ((S.2.1.take np).reverse ++ gvs t S) (S.2.1.drop np) S.1 S.2.2 go n
theorem ARs_pop {ρ : Nat → Int} {α Γ : Nat → Nat} {st : List AV} {st2 : List MV} (np : Nat) (h : ARs ρ α Γ st st2) : ∃ ms t2, st2 = ms.reverse ++ t2 ∧ ARs ρ α Γ (st.take np).reverse ms ∧ ARs ρ α Γ (st.drop np) t2 := by
  rw [← List.take_append_drop np st] at h
  obtain ⟨m1, m2, rfl, h1, h2⟩ := ARs.split _ h
  exact ⟨m1.reverse, m2, by rw [List.reverse_reverse], h1.rev, h2⟩
theorem q_sta (hPS : PSok Y PS dep) (hW : PSw PS) {dk : Nat} (hdk : dk ≤ d) {t : KT} (hK : KOK Y PS t) {idx np : Nat} (Q : SQ Y PS E Γ0 M0 d k Post go n (pc, .invokestatic idx, 3, a1, a2, a3) r) (hp : pool (mcls k) idx = some (4, kM t, np)) (hs : mstat (kM t) = true) (h : e_call dep E dk t np go n S = true) : TRU Y PS E Γ0 M0 d k Post pc S := by
  obtain ⟨ls, st, S3⟩ := S
  intro ρ α Γ M ls2 st2 r
  obtain ⟨h1, h2⟩ := bb2 (show ((Nat.ble np st.length && Nat.ble (gN t) 9) && e_call2 dep E dk t ((st.take np).reverse ++ gvs t (ls, st, S3)) (st.drop np) ls S3 go n) = true from h)
  obtain ⟨h1, hg1⟩ := bb2 h1
  obtain ⟨gs, hgs, hgn⟩ := gvs_ok (PS := PS) (S := (ls, st, S3)) (ρ := ρ) (α := α) (Γ := Γ) hg1
  obtain ⟨ms, t2, rfl, g1, g2⟩ := ARs_pop (st := st) np r.2.2.2.1
  obtain ⟨c1, Q1, c2, c3⟩ := call_ok hPS hW hdk hK hgn h2 (g1.app hgs) g2 r
  have hl : ms.length = np := by
    rw [← g1.len, List.length_reverse, List.length_take]
    have := ble_iff.mp h1
    omega
  refine g_sta Q.row.1 hp hl hs c1 c2 (fun ret M1 hq => ?_)
  obtain ⟨ρ2, Γ2, S1, b1, b2⟩ := c3 ret M1 hq
  exact Q.next b1 ρ2 α Γ2 M1 ls2 _ b2
theorem q_inv (hPS : PSok Y PS dep) (hW : PSw PS) {dk : Nat} (hdk : dk ≤ d) {t : KT} (hK : KOK Y PS t) {idx np : Nat} (Q : SQ Y PS E Γ0 M0 d k Post go n (pc, .invokevirtual idx, 3, a1, a2, a3) r) (hp : pool (mcls k) idx = some (4, kM t, np)) (hs : mstat (kM t) = false) (hn : ((mname (kM t)).name == "<init>") = false) (hr : ∃ τ as, kArgs t = (2, 0, τ, 0) :: as ∧ (Y τ).1 = mcls (kM t) ∧ (Y τ).2.1 = 0) (h : e_call dep E dk t (np + 1) go n S = true) : TRU Y PS E Γ0 M0 d k Post pc S := by
  obtain ⟨ls, st, S3⟩ := S
  intro ρ α Γ M ls2 st2 r
  obtain ⟨h1, h2⟩ := bb2 (show ((Nat.ble (np + 1) st.length && Nat.ble (gN t) 9) && e_call2 dep E dk t ((st.take (np + 1)).reverse ++ gvs t (ls, st, S3)) (st.drop (np + 1)) ls S3 go n) = true from h)
  obtain ⟨h1, hg1⟩ := bb2 h1
  obtain ⟨gs, hgs, hgn⟩ := gvs_ok (PS := PS) (S := (ls, st, S3)) (ρ := ρ) (α := α) (Γ := Γ) hg1
  obtain ⟨ms, t2, rfl, g1, g2⟩ := ARs_pop (st := st) (np + 1) r.2.2.2.1
  obtain ⟨c1, Q1, c2, c3⟩ := call_ok hPS hW hdk hK hgn h2 (g1.app hgs) g2 r
  have hl : ms.length = np + 1 := by
    rw [← g1.len, List.length_reverse, List.length_take]
    have := ble_iff.mp h1
    omega
  -- the receiver
  obtain ⟨τ, as, e1, e2, e3⟩ := hr
  have harg : argK S3.1 (kB t) 0 ((st.take (np + 1)).reverse ++ gvs t (ls, st, S3)) (kArgs t) = true := by
    have q := (bb2 h2).1
    have q := (bb2 q).2
    exact (bb2 (bb2 q).1).1
  rw [e1] at harg
  generalize (st.take (np + 1)).reverse = vs at harg g1
  match vs, ms, harg, g1, hl with
  | [], _, _, g1, hl => rw [g1.nil] at hl; cases hl
  | _ :: _, [], _, g1, _ => exact g1.elim
  | v :: vs, m :: ms, harg, g1, hl =>
    obtain ⟨hv, -⟩ := bb2 (show (argB S3.1 (kB t) 0 v (2, 0, τ, 0) && argK S3.1 (kB t) 1 (vs ++ gvs t (ls, st, S3)) as) = true from harg)
    obtain ⟨-, hv⟩ := bb2 (show (Nat.beq 0 0 && ((Nat.beq v.1 2 && Nat.beq v.2.2.1 τ) && (not (ltB 0 (bnd (kB t) 0).1) && not (ltB (bnd (kB t) 0).2 0)))) = true from hv)
    obtain ⟨hv, -⟩ := bb2 hv
    obtain ⟨hv, hτ⟩ := bb2 hv
    obtain ⟨rfl, q1, q2⟩ := AR.ref (beq_iff.mp hv) g1.1
    have hKd := KD_l (r.1 (α v.2.1) (by rw [q1]; exact q2)).2.1 (by rw [q1, beq_iff.mp hτ, e3]; decide)
    rw [q1, beq_iff.mp hτ, e2, e3] at hKd
    rw [List.reverse_cons, List.append_assoc]
    refine g_inv Q.row.1 hp (Nat.succ.inj hl) hKd hs hn c1 c2 (fun ret M1 hq => ?_)
    obtain ⟨ρ2, Γ2, S1, b1, b2⟩ := c3 ret M1 hq
    exact Q.next b1 ρ2 α Γ2 M1 ls2 _ b2
end
