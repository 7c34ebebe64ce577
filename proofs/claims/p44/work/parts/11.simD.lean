/-! the rows of the kit for the instructions that touch the heap -/
theorem tb_pool {c idx : Nat} {v : Nat × Nat × Nat} (h : pool c idx = some v) : ∃ pos : Nat, chkP c (idx, v, pos) = true := by
  unfold pool pfind at h
  cases hf : (ptabs.getD c []).find? (fun r => r.1 == idx) with
  | none => rw [hf] at h; cases h
  | some r =>
    rw [hf] at h
    have hx : r.2.1 = v := Option.some.inj h
    have hm := List.mem_of_find?_eq_some hf
    have h1 : r.1 = idx := by simpa using List.find?_some hf
    refine ⟨r.2.2, ?_⟩
    have h2 := chkP_c hm
    rw [← hx, ← h1]
    exact h2
theorem tb_fld {c0 idx g c j : Nat} (h : pool c0 idx = some (g, c, j)) (hg : g = 1 ∨ g = 2 ∨ g = 3) : ∃ q : vw_C, cks[c]? = some q ∧ j < q.2.2 ∧ Cond.fieldLink (cn c0) idx (q.2.1 j).1 (q.2.1 j).2.1 (q.2.1 j).2.2.1 ∈ gtl ∧ (q.2.1 j).1 = q.1 ∧ q.1 = cn c ∧ ft c j = g ∧ (q.2.1 j).2.2.2 = fn c j ∧
    (g = 1 → (q.2.1 j).2.2.1 = "I") ∧ (g = 2 → (q.2.1 j).2.2.1 = "Z") ∧ (g = 3 → ∃ ty : FieldType, parseFieldDescriptor (q.2.1 j).2.2.1 = some ty ∧ ∀ a : Nat, narrow ty (.ref a) = .ref a ∧ fits ty (.ref a) = true) := by
  obtain ⟨pos, hp⟩ := tb_pool h
  have hc : chkF c0 idx c j pos g = true := by
    rcases hg with rfl | rfl | rfl <;> exact hp
  unfold chkF at hc
  cases hq : cks[c]? with
  | none => rw [hq] at hc; cases hc
  | some q =>
    rw [hq] at hc
    simp only [Bool.and_eq_true, decide_eq_true_eq] at hc
    obtain ⟨⟨⟨⟨⟨⟨h1, h2⟩, h3⟩, h4⟩, h5⟩, h6⟩, h7⟩ := hc
    refine ⟨q, rfl, h1, tb_in h2, h3, h4, h5, h6, fun e => ?_, fun e => ?_, fun e => ?_⟩
    · subst e; exact of_decide_eq_true h7
    · subst e; exact of_decide_eq_true h7
    · subst e
      change (match parseFieldDescriptor (q.2.1 j).2.2.1 with
        | some (.object _) => true
        | some (.array _) => true
        | _ => false) = true at h7
      split at h7
      · rename_i C hC
        exact ⟨_, hC, fun a => ⟨rfl, rfl⟩⟩
      · rename_i t hC
        exact ⟨_, hC, fun a => ⟨rfl, rfl⟩⟩
      · cases h7
theorem tb_cls {c : Nat} {q : vw_C} (h : cks[c]? = some q) : (∀ w ∈ u_ws q.1 q.2.1 q.2.2, w ∈ gtl) ∧ (∀ a, a < q.2.2 → ∀ b, b < q.2.2 → a ≠ b → (q.2.1 a).2.1 ≠ (q.2.1 b).2.1) ∧ Cond.instantiable q.1 q.2.2 ∈ gtl ∧ Cond.initialized q.1 ∈ gtl ∧ q.1 = cn c ∧
    ∃ ty : Nat → FieldType, (∀ a, a < q.2.2 → parseFieldDescriptor (q.2.1 a).2.2.1 = some (ty a)) ∧ ∀ a, a < q.2.2 → defaultValue (ty a) = if ft c a = 3 then .null else .int 0 := by
  have hc : c < 12 := by
    rcases Nat.lt_or_ge c 12 with hl | hl
    · exact hl
    · rw [List.getElem?_eq_none (show cks.length ≤ c from hl)] at h; cases h
  have h0 := List.all_eq_true.mp chkK_all c (List.mem_range.mpr hc)
  unfold chkK at h0
  rw [h] at h0
  simp only [Bool.and_eq_true, decide_eq_true_eq] at h0
  obtain ⟨⟨⟨⟨⟨h1, h2⟩, h3, h3g⟩, h4, h4g⟩, h5⟩, h6⟩ := h0
  have hty : ∀ a, a < q.2.2 → ∃ ty : FieldType, parseFieldDescriptor (q.2.1 a).2.2.1 = some ty ∧ defaultValue ty = if ft c a = 3 then .null else .int 0 := by
    intro a ha
    have h7 := List.all_eq_true.mp h6 a (List.mem_range.mpr ha)
    split at h7
    · rename_i hp; rw [decide_eq_true_eq] at h7; exact ⟨_, hp, by rw [h7]; rfl⟩
    · rename_i hp; rw [decide_eq_true_eq] at h7; exact ⟨_, hp, by rw [h7]; rfl⟩
    · rename_i hp; rw [decide_eq_true_eq] at h7; exact ⟨_, hp, by rw [h7]; rfl⟩
    · rename_i hp; rw [decide_eq_true_eq] at h7; exact ⟨_, hp, by rw [h7]; rfl⟩
    · cases h7
  refine ⟨fun w hw => ?_, fun a ha b hb hab => ?_, gtl_of h3 h3g, gtl_of h4 h4g, h5, fun a => if ha : a < q.2.2 then Classical.choose (hty a ha) else .int, fun a ha => ?_, fun a ha => ?_⟩
  · have h8 := List.all_eq_true.mp h1 w hw
    simp only [Bool.and_eq_true, decide_eq_true_eq] at h8
    exact gtl_of h8.2 h8.1
  · have h8 := List.all_eq_true.mp (List.all_eq_true.mp h2 a (List.mem_range.mpr ha)) b (List.mem_range.mpr hb)
    simp only [Bool.or_eq_true, decide_eq_true_eq] at h8
    exact h8.resolve_left hab
  · dsimp only; rw [dif_pos ha]; exact (Classical.choose_spec (hty a ha)).1
  · dsimp only; rw [dif_pos ha]; exact (Classical.choose_spec (hty a ha)).2
theorem up_eq {α : Type} {f : Nat → Nat → α} {a j : Nat} {x : α} : up f a j x a j = x := if_pos ⟨rfl, rfl⟩
theorem up_nej {α : Type} {f : Nat → Nat → α} {a i j : Nat} {x : α} (h : ¬ i = j) : up f a j x a i = f a i := if_neg (fun q => h q.2)
theorem up_nea {α : Type} {f : Nat → Nat → α} {a b j : Nat} {x : α} (h : b ≠ a) : up f a j x b = f b := by funext i; exact if_neg (fun q => h q.1)
theorem mad_pos {base b a : Nat} (h : 1 ≤ a) : mad base b a = base + (a - 1) := by unfold mad; rw [if_neg (by omega)]
theorem mok_lt {L : Nat} {xs : Nat → Int32} {s : Nat} {K : Nat → Nat × Nat} {I : Nat → Nat → Int} (h : mok L xs s K I) {a g n : Nat} (ha : K a = (g, n)) (h1 : g ≠ 23) (h2 : g ≠ 99) : 1 ≤ a ∧ a < s := by
  obtain ⟨-, k0, k1, -⟩ := h
  constructor
  · rcases Nat.eq_zero_or_pos a with q | q
    · subst q; rw [k0] at ha; cases ha; exact absurd rfl h1
    · exact q
  · rcases Nat.lt_or_ge a s with q | q
    · exact q
    · rw [k1 a q] at ha; cases ha; exact absurd rfl h2
theorem mok_up {L : Nat} {xs : Nat → Int32} {s : Nat} {K : Nat → Nat × Nat} {I : Nat → Nat → Int} (h : mok L xs s K I) {a j : Nat} {x : Int} (ha : 1 ≤ a) (hx : inI x) (hz : ∀ n, K a = (21, n) → x = 0 ∨ x = 1) : mok L xs s K (up I a j x) := by
  obtain ⟨h1, h2, h3, h4, h5, h6, h7, h8⟩ := h
  refine ⟨h1, h2, h3, fun b i => ?_, fun b n i hb => ?_, fun i hi => ?_, h7, h8⟩
  · unfold up; split
    · exact hx
    · exact h4 b i
  · unfold up; split
    · rename_i q; exact hz n (q.1 ▸ hb)
    · exact h5 b n i hb
  · unfold up; rw [if_neg (by omega)]; exact h6 i hi
theorem mok_new {L : Nat} {xs : Nat → Int32} {s : Nat} {K : Nat → Nat × Nat} {I : Nat → Nat → Int} (h : mok L xs s K I) {g n : Nat} (h23 : g ≠ 23) (hn : n < 2147483648) : mok L xs (s + 1) (upk K s (g, n)) (upz I s 0) := by
  obtain ⟨h1, h2, h3, h4, h5, h6, h7, h8⟩ := h
  refine ⟨by omega, ?_, fun b hb => ?_, fun b i => ?_, fun b m i hb => ?_, fun i hi => ?_, fun b hb => ?_, fun b => ?_⟩
  · unfold upk; rw [if_neg (by omega)]; exact h2
  · unfold upk; rw [if_neg (by omega)]; exact h3 b (by omega)
  · unfold upz; split
    · exact ⟨by decide, by decide⟩
    · exact h4 b i
  · unfold upz; split
    · exact Or.inl rfl
    · rename_i q; unfold upk at hb; rw [if_neg q] at hb; exact h5 b m i hb
  · unfold upz; rw [if_neg (by omega)]; exact h6 i hi
  · unfold upk; split
    · exact h23
    · exact h7 b hb
  · unfold upk; split
    · exact hn
    · exact h8 b
theorem mHR_put {D : va_G} {cI cZ cW : ClassId} {base b L : Nat} {xs : Nat → Int32} {M M2 : MM} {H H2 : Heap} {a : Nat} (h : mHR D cI cZ cW base b L xs M H) (ha : 1 ≤ a) (e1 : M2.1 = M.1) (eK : M2.2.2.1 = M.2.2.1) (eR : ∀ x, x ≠ a → M2.2.2.2.1 x = M.2.2.2.1 x) (eI : ∀ x, x ≠ a → M2.2.2.2.2 x = M.2.2.2.2 x)
    (ho : mok L xs M2.1 M2.2.2.1 M2.2.2.2.2) (hz : H2.size = H.size) (hq : ∀ q, q ≠ base + (a - 1) → H2[q]? = H[q]?) (hc : mcell D cI cZ cW base b M2.2.2.1 M2.2.2.2.1 M2.2.2.2.2 a H2) : mHR D cI cZ cW base b L xs M2 H2 := by
  refine ⟨ho, by rw [e1, hz]; exact h.2.1, h.2.2.1, fun x h1 h2 => ?_⟩
  by_cases hx : x = a
  · subst hx; exact hc
  · exact (h.2.2.2 x h1 (e1 ▸ h2)).kept (by rw [eK]) (eR x hx) (eI x hx) (hq _ (by omega))
section SIMD
variable {p : Program} {l : Launch} {e : Env} {RR : Room} {s : State} {m : MethodId} {args : Array Value} {below : List Frame} {meth : Method} {c : Code} {Q : State → Prop} {D : va_G} {cI cZ cW : ClassId} {base b L : Nat} {xs : Nat → Int32} {k cE sE : Nat} {Me : MM} {C : Nx} {call : Cl}
variable {ls st : List MV} {M : MM} {lsr : Array Slot} {H : Heap} {locs : List Loc} {cells slots pc len : Nat}
theorem RS.me (hR : RS D cI cZ cW base b L xs s k cE sE Me ls st M lsr H locs cells slots) {t : List MV} {M2 : MM} {H2 : Heap} {a i : Nat} (ot : ∀ v ∈ t, vok v) (hb : b < base) (hm : mHR D cI cZ cW base b L xs M2 H2) (e1 : M2.1 = M.1) (e2 : M2.2.1 = M.2.1) (hq : ∀ q, q ≠ base + (a - 1) → H2[q]? = H[q]?) :
    RS D cI cZ cW base b L xs s k cE sE Me ls t M2 lsr H2 (locs ++ [⟨base + (a - 1), i⟩]) cells slots := by
  refine ⟨hR.1, hR.2.1, ot, hm, hR.2.2.2.2.1.kept (hq b (by omega)), fun q hq => ?_, by rw [e1]; exact hR.2.2.2.2.2.2.1, by rw [e2]; exact hR.2.2.2.2.2.2.2⟩
  rcases List.mem_append.mp hq with h1 | h1
  · exact hR.2.2.2.2.2.1 q h1
  · rw [List.mem_singleton.mp h1]
    exact Nat.le_add_right _ _
theorem z_getfield {idx : Nat} (F : mFix p s m args meth c D cI cZ cW base b k) (hC : SimC p l e RR s m args below meth c Q D cI cZ cW base b L xs k cE sE Me C) (hR : RS D cI cZ cW base b L xs s k cE sE Me ls st M lsr H locs cells slots) (hd : decode (mcode k) pc = .ok (.getfield idx, len)) (h : stepI call k (.getfield idx) len pc ls st M C) : W p l e RR s m args below meth c H locs cells slots Q (F0 m pc lsr (st.map (mrv base b))) := by
  obtain ⟨rfl, g, cc, j, a, t, v, rfl, hp, ha, hv, hc⟩ := h
  have hg : g = 1 ∨ g = 2 ∨ g = 3 := by
    rcases hv with q | q | q
    · exact Or.inl q.1
    · exact Or.inr (Or.inl q.1)
    · exact Or.inr (Or.inr q.1)
  obtain ⟨q, hq, hj, hl, hd1, hd2, hft, -⟩ := tb_fld hp hg
  have hcc : cc < 12 := (List.getElem?_eq_some_iff.mp hq).1
  obtain ⟨-, ot⟩ := ok_1 hR.2.2.1
  obtain ⟨hok, hsz, hbb, hcl⟩ := id hR.2.2.2.1
  obtain ⟨a1, a2⟩ := mok_lt hok ha (by omega) (by omega)
  obtain ⟨r, hr, cell, q1, q2, q3, q4⟩ := (hcl a a1 a2).1 cc ha hcc
  cases hq.symm.trans hr
  obtain ⟨hS, hfc, kC, hkC, hkind⟩ := F.2.2.2.2.2.1.1 cc _ hq
  obtain ⟨cf, kf, fi, f, hi, hsl⟩ := hS j hj
  obtain ⟨hin, -⟩ := tb_cls hq
  have hvv : mfv base b M.2.2.2.1 M.2.2.2.2 cc a j = mrv base b v ∧ vok v := by
    unfold mfv
    rcases hv with ⟨e1, e2⟩ | ⟨e1, e2⟩ | ⟨e1, e2⟩ <;> subst e1 <;> subst e2
    · rw [if_neg (by omega)]; exact ⟨rfl, hok.2.2.2.1 a j⟩
    · rw [if_neg (by omega)]; exact ⟨rfl, hok.2.2.2.1 a j⟩
    · rw [if_pos hft]; exact ⟨rfl, trivial⟩
  have hx := (hC _ _ _ _ hc).2 lsr H locs cells slots (hR.sk (ok_c hvv.2 ot))
  have e0 : mrv base b (vr a) = .ref (base + (a - 1)) := by show Value.ref (mad base b a) = _; rw [mad_pos a1]
  rw [List.map_cons, e0]
  refine W.getf F.1 F.2.1 F.2.2.2.1 (F.2.2.2.2.1 _ hl) (by rw [hd1] at *; exact hi) (u_facts hfc hkC (u_lays F.2.2.2.2.1 hin hj) hi).1 q1 (by rw [q3]; exact fun h => by cases h) (v := mrv base b v) ?_ rfl rfl hd hx
  rw [hsl, q4 j hj, hvv.1]
theorem z_putfield {idx : Nat} (F : mFix p s m args meth c D cI cZ cW base b k) (hC : SimC p l e RR s m args below meth c Q D cI cZ cW base b L xs k cE sE Me C) (hR : RS D cI cZ cW base b L xs s k cE sE Me ls st M lsr H locs cells slots) (hd : decode (mcode k) pc = .ok (.putfield idx, len)) (h : stepI call k (.putfield idx) len pc ls st M C) : W p l e RR s m args below meth c H locs cells slots Q (F0 m pc lsr (st.map (mrv base b))) := by
  obtain ⟨rfl, g, cc, j, a, t, v, M2, rfl, hp, ha, hfn, hv, hc⟩ := h
  have hg : g = 1 ∨ g = 2 ∨ g = 3 := by
    rcases hv with q | q | q
    · exact Or.inl q.1
    · exact Or.inr (Or.inl q.1)
    · exact Or.inr (Or.inr q.1)
  obtain ⟨q, hq, hj, hl, hd1, hd2, hft, hfin, g1, g2, g3⟩ := tb_fld hp hg
  have hcc : cc < 12 := (List.getElem?_eq_some_iff.mp hq).1
  obtain ⟨ov, -, ot⟩ := ok_2 hR.2.2.1
  obtain ⟨hok, hsz, hbb, hcl⟩ := id hR.2.2.2.1
  obtain ⟨a1, a2⟩ := mok_lt hok ha (by omega) (by omega)
  obtain ⟨r, hr, cell, q1, q2, q3, q4⟩ := (hcl a a1 a2).1 cc ha hcc
  cases hq.symm.trans hr
  obtain ⟨hS, hfc, kC, hkC, hkind⟩ := F.2.2.2.2.2.1.1 cc _ hq
  obtain ⟨cf, kf, fi, f, hi, hsl⟩ := hS j hj
  obtain ⟨hin, hnm, -, -, -, ty, hty, -⟩ := tb_cls hq
  have hap := va_apart (own := cn (mcls k)) F.2.2.2.2.1 hin ty hty hnm F.2.2.2.2.2.1 hq
  have hfit : ∃ ty : FieldType, parseFieldDescriptor (q.2.1 j).2.2.1 = some ty ∧ narrow ty (mrv base b v) = mrv base b v ∧ fits ty (mrv base b v) = true := by
    rcases hv with ⟨e1, x, e2, -⟩ | ⟨e1, x, e2, hx, -⟩ | ⟨e1, x, e2, -⟩ <;> subst e1 <;> subst e2
    · exact ⟨.int, by rw [g1 rfl]; rfl, rfl, rfl⟩
    · refine ⟨.boolean, by rw [g2 rfl]; rfl, ?_, ?_⟩
      · rcases hx with rfl | rfl <;> rfl
      · rcases hx with rfl | rfl <;> rfl
    · obtain ⟨ty, t1, t2⟩ := g3 rfl
      exact ⟨ty, t1, (t2 _).1, (t2 _).2⟩
  obtain ⟨ty1, t1, t2, t3⟩ := hfit
  have e0 : mrv base b (vr a) = .ref (base + (a - 1)) := by show Value.ref (mad base b a) = _; rw [mad_pos a1]
  have hm2 : M2.1 = M.1 ∧ M2.2.1 = M.2.1 ∧ M2.2.2.1 = M.2.2.1 ∧ (∀ x, x ≠ a → M2.2.2.2.1 x = M.2.2.2.1 x) ∧ (∀ x, x ≠ a → M2.2.2.2.2 x = M.2.2.2.2 x) ∧ mok L xs M2.1 M2.2.2.1 M2.2.2.2.2 ∧ ∀ i, updV (mfv base b M.2.2.2.1 M.2.2.2.2 cc a) j (mrv base b v) i = mfv base b M2.2.2.2.1 M2.2.2.2.2 cc a i := by
    have oj : ∀ x, x ≠ a → ∀ y : Int, up M.2.2.2.2 a j y x = M.2.2.2.2 x := fun x hx y => by funext i; unfold up; rw [if_neg (fun q => hx q.1)]
    have nz : ∀ n, M.2.2.1 a ≠ (21, n) := fun n h9 => by rw [ha] at h9; injection h9; omega
    rcases hv with ⟨e1, x, e2, e3⟩ | ⟨e1, x, e2, hx, e3⟩ | ⟨e1, x, e2, e3⟩ <;> subst e1 <;> subst e2 <;> subst e3
    · refine ⟨rfl, rfl, rfl, fun _ _ => rfl, fun x2 h2 => oj x2 h2 x, mok_up hok a1 ov (fun n h9 => absurd h9 (nz n)), fun i => ?_⟩
      unfold updV mfv
      by_cases hij : i = j
      · subst hij
        rw [if_pos rfl]
        show _ = (if ft cc i = 3 then va_rf (Option.map (mad base b) (M.2.2.2.1 a i)) else Value.int (Int32.ofInt (up M.2.2.2.2 a i x a i)))
        rw [if_neg (by omega), up_eq]; rfl
      · rw [if_neg hij]
        show _ = (if ft cc i = 3 then va_rf (Option.map (mad base b) (M.2.2.2.1 a i)) else Value.int (Int32.ofInt (up M.2.2.2.2 a j x a i)))
        rw [up_nej hij]
    · refine ⟨rfl, rfl, rfl, fun _ _ => rfl, fun x2 h2 => oj x2 h2 x, mok_up hok a1 ov (fun n h9 => absurd h9 (nz n)), fun i => ?_⟩
      unfold updV mfv
      by_cases hij : i = j
      · subst hij
        rw [if_pos rfl]
        show _ = (if ft cc i = 3 then va_rf (Option.map (mad base b) (M.2.2.2.1 a i)) else Value.int (Int32.ofInt (up M.2.2.2.2 a i x a i)))
        rw [if_neg (by omega), up_eq]; rfl
      · rw [if_neg hij]
        show _ = (if ft cc i = 3 then va_rf (Option.map (mad base b) (M.2.2.2.1 a i)) else Value.int (Int32.ofInt (up M.2.2.2.2 a j x a i)))
        rw [up_nej hij]
    · refine ⟨rfl, rfl, rfl, fun x2 h2 => by funext i; show up _ _ _ _ _ _ = _; unfold up; rw [if_neg (fun q => h2 q.1)], fun _ _ => rfl, hok, fun i => ?_⟩
      unfold updV mfv
      by_cases hij : i = j
      · subst hij
        rw [if_pos rfl]
        show _ = (if ft cc i = 3 then va_rf (Option.map (mad base b) (up M.2.2.2.1 a i (some x) a i)) else Value.int (Int32.ofInt (M.2.2.2.2 a i)))
        rw [if_pos hft, up_eq]; rfl
      · rw [if_neg hij]
        show _ = (if ft cc i = 3 then va_rf (Option.map (mad base b) (up M.2.2.2.1 a j (some x) a i)) else Value.int (Int32.ofInt (M.2.2.2.2 a i)))
        rw [up_nej hij]
  obtain ⟨m1, m2, m3, m4, m5, m6, m7⟩ := hm2
  have key : ∀ H2 : Heap, H2[base + (a - 1)]? = some (cell.setSlot f.slot (mrv base b v)) → H2.size = H.size → (∀ q, q ≠ base + (a - 1) → H2[q]? = H[q]?) → W p l e RR s m args below meth c H2 (locs ++ [⟨base + (a - 1), f.slot⟩]) cells slots Q (F0 m (pc + 3) lsr (t.map (mrv base b))) := by
    intro H2 x1 x2 x3
    rw [hsl] at x1
    refine (hC _ _ _ _ hc).2 lsr H2 _ cells slots (hR.me ot hbb (mHR_put hR.2.2.2.1 a1 m1 m3 m4 m5 m6 x2 x3 ⟨fun c2 h2 h3 => ?_, fun n h2 => ?_, fun n h2 => ?_, fun n h2 => ?_⟩) m1 m2 x3)
    · rw [m3, ha] at h2
      cases h2
      exact ⟨q, hq, t_OB.to (V := updV (mfv base b M.2.2.2.1 M.2.2.2.2 cc a) j (mrv base b v)) ⟨_, x1, q2, q3, t_set q4 hap hj _⟩ (fun i _ => m7 i)⟩
    · rw [m3, ha] at h2; injection h2; omega
    · rw [m3, ha] at h2; injection h2; omega
    · rw [m3, ha] at h2; injection h2; omega
  rw [List.map_cons, List.map_cons, e0]
  have hlay := F.2.2.2.2.1 _ (hin _ (u_in_lay hj))
  have hst := (u_facts hfc hkC (u_lays F.2.2.2.2.1 hin hj) hi).1
  unfold u_lay at hlay
  cases hb1 : fn cc j with
  | false =>
    rw [if_neg (by rw [hfin, hb1]; decide)] at hlay
    have h6 := u_store hfc hkC hkind hlay hi t1 t2 t3
    exact W.putK F.1 F.2.1 (f := f) ⟨F.2.2.2.1, F.2.2.2.2.1 _ hl, ⟨_, _, _, hi⟩, hst⟩ (by rw [q2]; exact h6) q1 q3 (by rw [hsl]; exact k2_hasslot (q4 j hj)) rfl rfl hd key
  | true =>
    rw [if_pos (by rw [hfin, hb1])] at hlay
    rcases hfn with h9 | ⟨h9, h10⟩
    · rw [hb1] at h9; cases h9
    have hcf : m.cls = cf := by
      obtain ⟨_, _, c', _, _, _, -, -, hf', -, -, -, hown2, -⟩ := Cond.laysFinal_spec hlay
      have e1 : c' = cf := by have := hi.symm.trans hf'; simp at this; exact this.1.symm
      have e2 : s.vm.findClass (q.2.1 j).1 = some m.cls := by rw [hd1, hd2, ← h10]; exact F.2.2.2.1
      rw [← e1]; exact Option.some.inj (e2.symm.trans hown2)
    have h6 := u_fits hfc hkC hkind (Or.inr hlay) hi t1 t2 t3
    exact W.putFinK F.1 F.2.1 F.2.2.2.1 (F.2.2.2.2.1 _ hl) hi hst hcf (F.2.2.2.2.2.2.2.1 h9) (by rw [q2]; exact h6) q1 q3 (by rw [hsl]; exact k2_hasslot (q4 j hj)) rfl rfl hd key
end SIMD
