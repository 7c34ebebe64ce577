section SIME
variable {p : Program} {l : Launch} {e : Env} {RR : Room} {s : State} {m : MethodId} {args : Array Value} {below : List Frame} {meth : Method} {c : Code} {Q : State → Prop} {D : va_G} {cI cZ cW : ClassId} {base b L : Nat} {xs : Nat → Int32} {k cE sE : Nat} {Me : MM} {C : Nx} {call : Cl}
variable {ls st : List MV} {M : MM} {lsr : Array Slot} {H : Heap} {locs : List Loc} {cells slots pc len : Nat}
theorem z_iaload  (F : mFix p s m args meth c D cI cZ cW base b k) (hC : SimC p l e RR s m args below meth c Q D cI cZ cW base b L xs k cE sE Me C) (hR : RS D cI cZ cW base b L xs s k cE sE Me ls st M lsr H locs cells slots) (hd : decode (mcode k) pc = .ok (.iaload, len)) (h : stepI call k (.iaload) len pc ls st M C) : W p l e RR s m args below meth c H locs cells slots Q (F0 m pc lsr (st.map (mrv base b))) := by
  obtain ⟨rfl, i, a, t, n, rfl, ha | ha, h0, h1, hc⟩ := h
  · obtain ⟨oi, -, ot⟩ := ok_2 hR.2.2.1
    obtain ⟨hok, hsz, hbb, hcl⟩ := id hR.2.2.2.1
    obtain ⟨a1, a2⟩ := mok_lt hok ha (by decide) (by decide)
    have e0 : mrv base b (vr a) = .ref (base + (a - 1)) := by show Value.ref (mad base b a) = _; rw [mad_pos a1]
    have hx := (hC _ _ _ _ hc).2 lsr H locs cells slots (hR.sk (ok_c (y := vi _) (hok.2.2.2.1 a i.toNat) ot))
    rw [List.map_cons, List.map_cons, e0]
    exact W.iald (v := .int (Int32.ofInt (M.2.2.2.2 a i.toNat))) F.1 F.2.1 ((hcl a a1 a2).2.1 n ha) ((F.2.2.2.2.2.1.2 0 _ rfl).1 n _) (fun q => by cases q) (by rw [arrV_size]; exact oi_ix oi h0 h1) (by rw [oi_cl oi, arrV_read _ _ (by omega)]) rfl rfl hd hx
  · obtain ⟨oi, -, ot⟩ := ok_2 hR.2.2.1
    obtain ⟨hok, hsz, hbb, hcl⟩ := id hR.2.2.2.1
    have a0 : a = 0 := by
      rcases Nat.eq_zero_or_pos a with q | q
      · exact q
      · exact absurd (by rw [ha]) (hok.2.2.2.2.2.2.1 a q)
    subst a0
    have hn : n = L := by have := hok.2.1.symm.trans ha; injection this; omega
    subst hn
    have hx := (hC _ _ _ _ hc).2 lsr H locs cells slots (hR.sk (ok_c (y := vi _) (hok.2.2.2.1 0 i.toNat) ot))
    obtain ⟨scr, x1, x2, x3, x4, x5⟩ := hR.2.2.2.2.1
    have e1 : Value.int (Int32.ofInt (M.2.2.2.2 0 i.toNat)) = .int (xs i.toNat) := by rw [hok.2.2.2.2.2.1 _ (by omega), oi_of]
    have hx2 : W p l e RR s m args below meth c H locs cells slots Q (F0 m (pc + 1) lsr (Value.int (Int32.ofInt (M.2.2.2.2 0 i.toNat)) :: t.map (mrv base b))) := hx
    rw [e1] at hx2
    exact W.iald (a := b) (v := .int (xs i.toNat)) F.1 F.2.1 x1 x2 x3 (by rw [x4]; exact oi_ix oi h0 h1) (by rw [oi_cl oi]; exact x5 _ (by omega)) rfl rfl hd hx2
theorem z_baload  (F : mFix p s m args meth c D cI cZ cW base b k) (hC : SimC p l e RR s m args below meth c Q D cI cZ cW base b L xs k cE sE Me C) (hR : RS D cI cZ cW base b L xs s k cE sE Me ls st M lsr H locs cells slots) (hd : decode (mcode k) pc = .ok (.baload, len)) (h : stepI call k (.baload) len pc ls st M C) : W p l e RR s m args below meth c H locs cells slots Q (F0 m pc lsr (st.map (mrv base b))) := by
  obtain ⟨rfl, i, a, t, n, rfl, ha, h0, h1, hc⟩ := h
  obtain ⟨oi, -, ot⟩ := ok_2 hR.2.2.1
  obtain ⟨hok, hsz, hbb, hcl⟩ := id hR.2.2.2.1
  obtain ⟨a1, a2⟩ := mok_lt hok ha (by decide) (by decide)
  have e0 : mrv base b (vr a) = .ref (base + (a - 1)) := by show Value.ref (mad base b a) = _; rw [mad_pos a1]
  have hx := (hC _ _ _ _ hc).2 lsr H locs cells slots (hR.sk (ok_c (y := vi _) (hok.2.2.2.1 a i.toNat) ot))
  rw [List.map_cons, List.map_cons, e0]
  exact W.zald (v := .int (Int32.ofInt (M.2.2.2.2 a i.toNat))) F.1 F.2.1 ((hcl a a1 a2).2.2.1 n ha) ((F.2.2.2.2.2.1.2 1 _ rfl).1 n _) (fun q => by cases q) (by rw [arrV_size]; exact oi_ix oi h0 h1) (by rw [oi_cl oi, arrV_read _ _ (by omega)]) rfl rfl hd hx
theorem z_aaload  (F : mFix p s m args meth c D cI cZ cW base b k) (hC : SimC p l e RR s m args below meth c Q D cI cZ cW base b L xs k cE sE Me C) (hR : RS D cI cZ cW base b L xs s k cE sE Me ls st M lsr H locs cells slots) (hd : decode (mcode k) pc = .ok (.aaload, len)) (h : stepI call k (.aaload) len pc ls st M C) : W p l e RR s m args below meth c H locs cells slots Q (F0 m pc lsr (st.map (mrv base b))) := by
  obtain ⟨rfl, i, a, t, n, rfl, ha, h0, h1, hc⟩ := h
  obtain ⟨oi, -, ot⟩ := ok_2 hR.2.2.1
  obtain ⟨hok, hsz, hbb, hcl⟩ := id hR.2.2.2.1
  obtain ⟨a1, a2⟩ := mok_lt hok ha (by decide) (by decide)
  have e0 : mrv base b (vr a) = .ref (base + (a - 1)) := by show Value.ref (mad base b a) = _; rw [mad_pos a1]
  have hx := (hC _ _ _ _ hc).2 lsr H locs cells slots (hR.sk (ok_c (y := vq _) trivial ot))
  rw [List.map_cons, List.map_cons, e0]
  exact W.aald (v := va_rf ((M.2.2.2.1 a i.toNat).map (mad base b))) F.1 F.2.1 ((hcl a a1 a2).2.2.2 n ha) ((F.2.2.2.2.2.1.2 2 _ rfl).1 n _) rfl (fun q => by cases q) (by rw [arrV_size]; exact oi_ix oi h0 h1) (by rw [oi_cl oi, arrV_read _ _ (by omega)]) rfl rfl hd hx
theorem z_iastore  (F : mFix p s m args meth c D cI cZ cW base b k) (hC : SimC p l e RR s m args below meth c Q D cI cZ cW base b L xs k cE sE Me C) (hR : RS D cI cZ cW base b L xs s k cE sE Me ls st M lsr H locs cells slots) (hd : decode (mcode k) pc = .ok (.iastore, len)) (h : stepI call k (.iastore) len pc ls st M C) : W p l e RR s m args below meth c H locs cells slots Q (F0 m pc lsr (st.map (mrv base b))) := by
  obtain ⟨rfl, x, i, a, t, n, rfl, ha, h0, h1, hc⟩ := h
  obtain ⟨ox, oi, ot0⟩ := ok_2 hR.2.2.1
  obtain ⟨-, ot⟩ := ok_1 ot0
  obtain ⟨hok, hsz, hbb, hcl⟩ := id hR.2.2.2.1
  obtain ⟨a1, a2⟩ := mok_lt hok ha (by decide) (by decide)
  have e0 : mrv base b (vr a) = .ref (base + (a - 1)) := by show Value.ref (mad base b a) = _; rw [mad_pos a1]
  rw [List.map_cons, List.map_cons, List.map_cons, e0]
  refine W.iast F.1 F.2.1 ((hcl a a1 a2).2.1 n ha) ((F.2.2.2.2.2.1.2 0 _ rfl).1 n _) (fun q => by cases q) (by rw [arrV_size]; exact oi_ix oi h0 h1) rfl rfl hd fun H2 x1 x2 x3 => ?_
  rw [arrV_store, oi_cl oi] at x1
  refine (hC _ _ _ _ hc).2 lsr H2 _ cells slots (hR.me ot hbb (mHR_put hR.2.2.2.1 a1 rfl rfl (fun _ _ => rfl) (fun _ h9 => up_nea h9) (mok_up hok a1 ox (fun n2 h2 => by have h9 := ha.symm.trans h2; injection h9; omega)) x2 x3 ⟨fun c2 h2 h3 => ?_, fun n2 h2 => ?_, fun n2 h2 => ?_, fun n2 h2 => ?_⟩) rfl rfl x3)
  · have h9 := ha.symm.trans h2; injection h9; omega
  · have h9 := ha.symm.trans h2
    injection h9 with h9 h10
    subst h10
    show H2[base + (a - 1)]? = some (arrV cI n (fun j => .int (Int32.ofInt (up M.2.2.2.2 a i.toNat x a j))))
    rw [x1]
    congr 2
    funext j
    unfold updV
    by_cases hj : j = i.toNat
    · subst hj; rw [if_pos rfl, up_eq]
    · rw [if_neg hj, up_nej hj]
  · have h9 := ha.symm.trans h2; injection h9; omega
  · have h9 := ha.symm.trans h2; injection h9; omega
theorem z_bastore  (F : mFix p s m args meth c D cI cZ cW base b k) (hC : SimC p l e RR s m args below meth c Q D cI cZ cW base b L xs k cE sE Me C) (hR : RS D cI cZ cW base b L xs s k cE sE Me ls st M lsr H locs cells slots) (hd : decode (mcode k) pc = .ok (.bastore, len)) (h : stepI call k (.bastore) len pc ls st M C) : W p l e RR s m args below meth c H locs cells slots Q (F0 m pc lsr (st.map (mrv base b))) := by
  obtain ⟨rfl, x, i, a, t, n, rfl, ha, h0, h1, hz, hc⟩ := h
  obtain ⟨ox, oi, ot0⟩ := ok_2 hR.2.2.1
  obtain ⟨-, ot⟩ := ok_1 ot0
  obtain ⟨hok, hsz, hbb, hcl⟩ := id hR.2.2.2.1
  obtain ⟨a1, a2⟩ := mok_lt hok ha (by decide) (by decide)
  have e0 : mrv base b (vr a) = .ref (base + (a - 1)) := by show Value.ref (mad base b a) = _; rw [mad_pos a1]
  rw [List.map_cons, List.map_cons, List.map_cons, e0]
  refine W.zast F.1 F.2.1 ((hcl a a1 a2).2.2.1 n ha) ((F.2.2.2.2.2.1.2 1 _ rfl).1 n _) (fun q => by cases q) (by rw [arrV_size]; exact oi_ix oi h0 h1) rfl rfl hd fun H2 x1 x2 x3 => ?_
  have hnar : narrow .boolean (.int (Int32.ofInt x)) = .int (Int32.ofInt x) := by rcases hz with rfl | rfl <;> rfl
  rw [hnar, arrV_store, oi_cl oi] at x1
  refine (hC _ _ _ _ hc).2 lsr H2 _ cells slots (hR.me ot hbb (mHR_put hR.2.2.2.1 a1 rfl rfl (fun _ _ => rfl) (fun _ h9 => up_nea h9) (mok_up hok a1 ox (fun n2 h2 => hz)) x2 x3 ⟨fun c2 h2 h3 => ?_, fun n2 h2 => ?_, fun n2 h2 => ?_, fun n2 h2 => ?_⟩) rfl rfl x3)
  · have h9 := ha.symm.trans h2; injection h9; omega
  · have h9 := ha.symm.trans h2; injection h9; omega
  · have h9 := ha.symm.trans h2
    injection h9 with h9 h10
    subst h10
    show H2[base + (a - 1)]? = some (arrV cZ n (fun j => .int (Int32.ofInt (up M.2.2.2.2 a i.toNat x a j))))
    rw [x1]
    congr 2
    funext j
    unfold updV
    by_cases hj : j = i.toNat
    · subst hj; rw [if_pos rfl, up_eq]
    · rw [if_neg hj, up_nej hj]
  · have h9 := ha.symm.trans h2; injection h9; omega
theorem z_aastore  (F : mFix p s m args meth c D cI cZ cW base b k) (hC : SimC p l e RR s m args below meth c Q D cI cZ cW base b L xs k cE sE Me C) (hR : RS D cI cZ cW base b L xs s k cE sE Me ls st M lsr H locs cells slots) (hd : decode (mcode k) pc = .ok (.aastore, len)) (h : stepI call k (.aastore) len pc ls st M C) : W p l e RR s m args below meth c H locs cells slots Q (F0 m pc lsr (st.map (mrv base b))) := by
  obtain ⟨rfl, x, i, a, t, n, rfl, ha, hxk, h0, h1, hc⟩ := h
  obtain ⟨-, oi, ot0⟩ := ok_2 hR.2.2.1
  obtain ⟨-, ot⟩ := ok_1 ot0
  obtain ⟨hok, hsz, hbb, hcl⟩ := id hR.2.2.2.1
  obtain ⟨a1, a2⟩ := mok_lt hok ha (by decide) (by decide)
  have e0 : mrv base b (vr a) = .ref (base + (a - 1)) := by show Value.ref (mad base b a) = _; rw [mad_pos a1]
  obtain ⟨y1, y2⟩ := mok_lt hok hxk (by decide) (by decide)
  have e1 : mrv base b (vr x) = .ref (base + (x - 1)) := by show Value.ref (mad base b x) = _; rw [mad_pos y1]
  rw [List.map_cons, List.map_cons, List.map_cons, e0, e1]
  obtain ⟨r, hr, cell, q1, q2, q3, q4⟩ := (hcl x y1 y2).1 10 hxk (by decide)
  have hcls := (F.2.2.2.2.2.1.1 10 r hr).2
  have hr1 : r.1 = rk10 := by cases hr; rfl
  rw [hr1] at hcls
  obtain ⟨kA, comp, k1, k2, k3, -⟩ := (F.2.2.2.2.2.1.2 2 _ rfl).2
  have hcomp : comp = D.1 10 := Option.some.inj (k3.symm.trans hcls.1)
  subst hcomp
  obtain ⟨kC, hkC, -⟩ := hcls.2
  refine W.aast F.1 F.2.1 ((hcl a a1 a2).2.2.2 n ha) (fun q h => by cases h) (fun h => by cases h) k1 k2 rfl hkC ⟨oi_nn oi h0, by rw [arrV_size, oi_cl oi]; omega⟩ q1 (fun q h => by rw [q3] at h; cases h) (by rw [q2]; exact hkC) (by rw [q2]; exact va_assign hcls) rfl rfl hd fun H2 x1 x2 x3 => ?_
  rw [arrV_store, oi_cl oi] at x1
  refine (hC _ _ _ _ hc).2 lsr H2 _ cells slots (hR.me ot hbb (mHR_put hR.2.2.2.1 a1 rfl rfl (fun _ h9 => up_nea h9) (fun _ _ => rfl) hok x2 x3 ⟨fun c2 h2 h3 => ?_, fun n2 h2 => ?_, fun n2 h2 => ?_, fun n2 h2 => ?_⟩) rfl rfl x3)
  · have h9 := ha.symm.trans h2; injection h9; omega
  · have h9 := ha.symm.trans h2; injection h9; omega
  · have h9 := ha.symm.trans h2; injection h9; omega
  · have h9 := ha.symm.trans h2
    injection h9 with h9 h10
    subst h10
    show H2[base + (a - 1)]? = some (arrV cW n (fun j => va_rf ((up M.2.2.2.1 a i.toNat (some x) a j).map (mad base b))))
    rw [x1]
    congr 2
    funext j
    unfold updV
    by_cases hj : j = i.toNat
    · subst hj; rw [if_pos rfl, up_eq]; show _ = Value.ref (mad base b x); rw [mad_pos y1]
    · rw [if_neg hj, up_nej hj]
theorem z_arraylength  (F : mFix p s m args meth c D cI cZ cW base b k) (hC : SimC p l e RR s m args below meth c Q D cI cZ cW base b L xs k cE sE Me C) (hR : RS D cI cZ cW base b L xs s k cE sE Me ls st M lsr H locs cells slots) (hd : decode (mcode k) pc = .ok (.arraylength, len)) (h : stepI call k (.arraylength) len pc ls st M C) : W p l e RR s m args below meth c H locs cells slots Q (F0 m pc lsr (st.map (mrv base b))) := by
  obtain ⟨rfl, a, t, g, n, rfl, ha, hg, hc⟩ := h
  obtain ⟨-, ot⟩ := ok_1 hR.2.2.1
  obtain ⟨hok, hsz, hbb, hcl⟩ := id hR.2.2.2.1
  have hn : n < 2147483648 := by have := hok.2.2.2.2.2.2.2 a; rw [ha] at this; exact this
  have on : vok (vi (n : Int)) := by show inI _; unfold inI; omega
  have e1 : ∀ q : Nat, q = n → q.toInt32 = Int32.ofInt (n : Int) := fun q h9 => by
    subst h9
    rw [Int32.ofInt_eq_ofNat]
  have hx := (hC _ _ _ _ hc).2 lsr H locs cells slots (hR.sk (ok_c on ot))
  rcases hg with rfl | rfl | rfl | rfl
  · obtain ⟨a1, a2⟩ := mok_lt hok ha (by decide) (by decide)
    have e0 : mrv base b (vr a) = .ref (base + (a - 1)) := by show Value.ref (mad base b a) = _; rw [mad_pos a1]
    rw [List.map_cons, e0]
    exact W.alen (n := Int32.ofInt (n : Int)) F.1 F.2.1 ((hcl a a1 a2).2.1 n ha) ((F.2.2.2.2.2.1.2 0 _ rfl).1 n _) (e1 _ (arrV_size _ _ _)) rfl rfl hd hx
  · obtain ⟨a1, a2⟩ := mok_lt hok ha (by decide) (by decide)
    have e0 : mrv base b (vr a) = .ref (base + (a - 1)) := by show Value.ref (mad base b a) = _; rw [mad_pos a1]
    rw [List.map_cons, e0]
    exact W.alen (n := Int32.ofInt (n : Int)) F.1 F.2.1 ((hcl a a1 a2).2.2.1 n ha) ((F.2.2.2.2.2.1.2 1 _ rfl).1 n _) (e1 _ (arrV_size _ _ _)) rfl rfl hd hx
  · obtain ⟨a1, a2⟩ := mok_lt hok ha (by decide) (by decide)
    have e0 : mrv base b (vr a) = .ref (base + (a - 1)) := by show Value.ref (mad base b a) = _; rw [mad_pos a1]
    rw [List.map_cons, e0]
    exact W.alen (n := Int32.ofInt (n : Int)) F.1 F.2.1 ((hcl a a1 a2).2.2.2 n ha) ((F.2.2.2.2.2.1.2 2 _ rfl).1 n _) (e1 _ (arrV_size _ _ _)) rfl rfl hd hx
  · have a0 : a = 0 := by
      rcases Nat.eq_zero_or_pos a with q | q
      · exact q
      · exact absurd (by rw [ha]) (hok.2.2.2.2.2.2.1 a q)
    subst a0
    have hn : n = L := by have := hok.2.1.symm.trans ha; injection this; omega
    obtain ⟨scr, x1, x2, x3, x4, x5⟩ := hR.2.2.2.2.1
    exact W.alen (a := b) (n := Int32.ofInt (n : Int)) F.1 F.2.1 x1 x2 (e1 _ (by rw [x4, hn])) rfl rfl hd hx
theorem z_newc {idx : Nat} (hE : cE ≤ RR.cells ∧ sE ≤ RR.slots) (F : mFix p s m args meth c D cI cZ cW base b k) (hC : SimC p l e RR s m args below meth c Q D cI cZ cW base b L xs k cE sE Me C) (hR : RS D cI cZ cW base b L xs s k cE sE Me ls st M lsr H locs cells slots) (hd : decode (mcode k) pc = .ok (.new idx, len)) (h : stepI call k (.new idx) len pc ls st M C) : W p l e RR s m args below meth c H locs cells slots Q (F0 m pc lsr (st.map (mrv base b))) := by
  obtain ⟨rfl, cc, n, hp, hc⟩ := h
  have ot := hR.2.2.1
  obtain ⟨hok, hsz, hbb, hcl⟩ := id hR.2.2.2.1
  obtain ⟨pos, hpp⟩ := tb_pool hp
  have hq : ∃ q : vw_C, cks[cc]? = some q ∧ n = q.2.2 ∧ Cond.classLink (cn (mcls k)) idx q.1 ∈ gtl := by
    replace hpp : (match cks[cc]? with
      | some q => decide (n = q.2.2) && decide (q.1 = cn cc) && tb_at pos (Cond.classLink (cn (mcls k)) idx q.1)
      | none => false) = true := hpp
    cases hq : cks[cc]? with
    | none => rw [hq] at hpp; cases hpp
    | some q =>
      rw [hq] at hpp
      simp only [Bool.and_eq_true, decide_eq_true_eq] at hpp
      exact ⟨q, rfl, hpp.1.1, tb_in hpp.2⟩
  obtain ⟨q, hq, rfl, hlk⟩ := hq
  have hcc : cc < 12 := (List.getElem?_eq_some_iff.mp hq).1
  obtain ⟨hin, hnm, hins, hini, hcn, ty, hty, hdf⟩ := tb_cls hq
  have hs1 := hok.1
  have hm := (hC _ _ _ _ hc).1
  have hRc := hR.2.2.2.2.2.2.1
  have hRs := hR.2.2.2.2.2.2.2
  have hKn := F.2.2.2.2.2.1.1 cc _ hq
  have e9 : base + (M.1 - 1) = H.size := by omega
  have e0 : mrv base b (vr M.1) = .ref H.size := by show Value.ref (mad base b M.1) = _; rw [mad_pos hok.1, e9]
  have mm1 : M.1 + 1 ≤ Me.1 := hm.1
  have mm2 : M.2.1 + q.2.2 ≤ Me.2.1 := hm.2
  refine W.newcK F.1 F.2.1 F.2.2.2.1 (F.2.2.2.2.1 _ hlk) (F.2.2.2.2.1 _ hins) (F.2.2.2.2.1 _ hini) rfl hd (by omega) (by omega) hKn.2.1 rfl fun H2 kC hkC e1 z1 o1 => ?_
  rw [← e0]
  refine (hC _ _ _ _ hc).2 lsr H2 locs (cells + 1) (slots + q.2.2) ⟨hR.1, hR.2.1, ok_c trivial ot, ⟨mok_new hok (by omega) (by decide), by show base + (M.1 + 1) = _; omega, hbb, fun x y1 y2 => ?_⟩, hR.2.2.2.2.1.kept (o1 b (by omega)), hR.2.2.2.2.2.1, by show cells + 1 + (Me.1 - (M.1 + 1)) = cE; have : M.1 + 1 ≤ Me.1 := hm.1; omega, by show slots + q.2.2 + (Me.2.1 - (M.2.1 + q.2.2)) = sE; have : M.2.1 + q.2.2 ≤ Me.2.1 := hm.2; omega⟩
  by_cases hx : x = M.1
  · subst hx
    have ek : upk M.2.2.1 M.1 (cc, 0) M.1 = (cc, 0) := if_pos rfl
    refine ⟨fun c2 h2 h3 => ?_, fun n2 h2 => ?_, fun n2 h2 => ?_, fun n2 h2 => ?_⟩
    · have h9 := ek.symm.trans h2
      injection h9 with h9 h10
      subst h9
      refine ⟨q, hq, ?_⟩
      have e2 : base + (M.1 - 1) = H.size := by have := hok.1; omega
      rw [e2]
      refine (u_born ty F.2.2.2.2.1 hin hKn hkC e1 hty).to (fun j hj => ?_)
      rw [hdf j hj]
      unfold mfv
      by_cases hf : ft cc j = 3
      · rw [if_pos hf, if_pos hf]; show _ = va_rf (Option.map _ (upz M.2.2.2.1 M.1 none M.1 j)); unfold upz; rw [if_pos rfl]; rfl
      · rw [if_neg hf, if_neg hf]; show _ = Value.int (Int32.ofInt (upz M.2.2.2.2 M.1 0 M.1 j)); unfold upz; rw [if_pos rfl]; rfl
    · have h9 := ek.symm.trans h2; injection h9; omega
    · have h9 := ek.symm.trans h2; injection h9; omega
    · have h9 := ek.symm.trans h2; injection h9; omega
  · exact (hcl x y1 (by have : x < M.1 + 1 := y2; omega)).kept (if_neg hx) (by funext j; exact if_neg hx) (by funext j; exact if_neg hx) (o1 _ (by omega))
theorem z_newarray {ty : ArrayType} (hE : cE ≤ RR.cells ∧ sE ≤ RR.slots) (F : mFix p s m args meth c D cI cZ cW base b k) (hC : SimC p l e RR s m args below meth c Q D cI cZ cW base b L xs k cE sE Me C) (hR : RS D cI cZ cW base b L xs s k cE sE Me ls st M lsr H locs cells slots) (hd : decode (mcode k) pc = .ok (.newarray ty, len)) (h : stepI call k (.newarray ty) len pc ls st M C) : W p l e RR s m args below meth c H locs cells slots Q (F0 m pc lsr (st.map (mrv base b))) := by
  obtain ⟨rfl, n, g, t, rfl, h0, h1, hg, hc⟩ := h
  obtain ⟨on, ot⟩ := ok_1 hR.2.2.1
  obtain ⟨hok, hsz, hbb, hcl⟩ := id hR.2.2.2.1
  have hs1 := hok.1
  have hm := (hC _ _ _ _ hc).1
  have hRc := hR.2.2.2.2.2.2.1
  have hRs := hR.2.2.2.2.2.2.2
  have e9 : base + (M.1 - 1) = H.size := by omega
  have e0 : mrv base b (vr M.1) = .ref H.size := by show Value.ref (mad base b M.1) = _; rw [mad_pos hok.1, e9]
  have mm1 : M.1 + 1 ≤ Me.1 := hm.1
  have mm2 : M.2.1 + n.toNat ≤ Me.2.1 := hm.2
  have e2 : base + (M.1 - 1) = H.size := by have := hok.1; omega
  rcases hg with ⟨rfl, rfl⟩ | ⟨rfl, rfl⟩
  · refine va_newaK (atype := .int) F.1 F.2.1 (F.2.2.2.2.1 _ tb_ai) rfl hd (n := Int32.ofInt n) rfl (oi_nn on h0) (oi_cl on) (by show n.toNat * 4 ≤ _; omega) (by omega) (by omega) rfl fun H2 cA e1 z1 o1 hAr hNm => ?_
    have hcA : cA = cI := Option.some.inj (hNm.symm.trans (F.2.2.2.2.2.1.2 0 _ rfl).2)
    subst hcA
    rw [← e0]
    refine (hC _ _ _ _ hc).2 lsr H2 locs (cells + 1) (slots + n.toNat) ⟨hR.1, hR.2.1, ok_c trivial ot, ⟨mok_new hok (by decide) (by omega), by show base + (M.1 + 1) = _; omega, hbb, fun x y1 y2 => ?_⟩, hR.2.2.2.2.1.kept (o1 b (by omega)), hR.2.2.2.2.2.1, by show cells + 1 + (Me.1 - (M.1 + 1)) = cE; have : M.1 + 1 ≤ Me.1 := hm.1; omega, by show slots + n.toNat + (Me.2.1 - (M.2.1 + n.toNat)) = sE; have : M.2.1 + n.toNat ≤ Me.2.1 := hm.2; omega⟩
    by_cases hx : x = M.1
    · subst hx
      have ek : upk M.2.2.1 M.1 (20, n.toNat) M.1 = (20, n.toNat) := if_pos rfl
      refine ⟨fun c2 h2 h3 => ?_, fun n2 h2 => ?_, fun n2 h2 => ?_, fun n2 h2 => ?_⟩
      · have h9 := ek.symm.trans h2; injection h9; omega
      · have h9 := ek.symm.trans h2
        injection h9 with h9 h10
        subst h10
        rw [e2, e1]
        congr 2
        funext j
        show _ = Value.int (Int32.ofInt (upz M.2.2.2.2 M.1 0 M.1 j))
        unfold upz
        rw [if_pos rfl]
        rfl
      · have h9 := ek.symm.trans h2; injection h9; omega
      · have h9 := ek.symm.trans h2; injection h9; omega
    · exact (hcl x y1 (by have : x < M.1 + 1 := y2; omega)).kept (if_neg hx) (by funext j; exact if_neg hx) (by funext j; exact if_neg hx) (o1 _ (by omega))
  · refine va_newaK (atype := .boolean) F.1 F.2.1 (F.2.2.2.2.1 _ tb_az) rfl hd (n := Int32.ofInt n) rfl (oi_nn on h0) (oi_cl on) (by show n.toNat * 1 ≤ _; omega) (by omega) (by omega) rfl fun H2 cA e1 z1 o1 hAr hNm => ?_
    have hcA : cA = cZ := Option.some.inj (hNm.symm.trans (F.2.2.2.2.2.1.2 1 _ rfl).2)
    subst hcA
    rw [← e0]
    refine (hC _ _ _ _ hc).2 lsr H2 locs (cells + 1) (slots + n.toNat) ⟨hR.1, hR.2.1, ok_c trivial ot, ⟨mok_new hok (by decide) (by omega), by show base + (M.1 + 1) = _; omega, hbb, fun x y1 y2 => ?_⟩, hR.2.2.2.2.1.kept (o1 b (by omega)), hR.2.2.2.2.2.1, by show cells + 1 + (Me.1 - (M.1 + 1)) = cE; have : M.1 + 1 ≤ Me.1 := hm.1; omega, by show slots + n.toNat + (Me.2.1 - (M.2.1 + n.toNat)) = sE; have : M.2.1 + n.toNat ≤ Me.2.1 := hm.2; omega⟩
    by_cases hx : x = M.1
    · subst hx
      have ek : upk M.2.2.1 M.1 (21, n.toNat) M.1 = (21, n.toNat) := if_pos rfl
      refine ⟨fun c2 h2 h3 => ?_, fun n2 h2 => ?_, fun n2 h2 => ?_, fun n2 h2 => ?_⟩
      · have h9 := ek.symm.trans h2; injection h9; omega
      · have h9 := ek.symm.trans h2; injection h9; omega
      · have h9 := ek.symm.trans h2
        injection h9 with h9 h10
        subst h10
        rw [e2, e1]
        congr 2
        funext j
        show _ = Value.int (Int32.ofInt (upz M.2.2.2.2 M.1 0 M.1 j))
        unfold upz
        rw [if_pos rfl]
        rfl
      · have h9 := ek.symm.trans h2; injection h9; omega
    · exact (hcl x y1 (by have : x < M.1 + 1 := y2; omega)).kept (if_neg hx) (by funext j; exact if_neg hx) (by funext j; exact if_neg hx) (o1 _ (by omega))
theorem z_anewarray {idx : Nat} (hE : cE ≤ RR.cells ∧ sE ≤ RR.slots) (F : mFix p s m args meth c D cI cZ cW base b k) (hC : SimC p l e RR s m args below meth c Q D cI cZ cW base b L xs k cE sE Me C) (hR : RS D cI cZ cW base b L xs s k cE sE Me ls st M lsr H locs cells slots) (hd : decode (mcode k) pc = .ok (.anewarray idx, len)) (h : stepI call k (.anewarray idx) len pc ls st M C) : W p l e RR s m args below meth c H locs cells slots Q (F0 m pc lsr (st.map (mrv base b))) := by
  obtain ⟨rfl, n, t, rfl, hp, h0, h1, hc⟩ := h
  obtain ⟨on, ot⟩ := ok_1 hR.2.2.1
  obtain ⟨hok, hsz, hbb, hcl⟩ := id hR.2.2.2.1
  obtain ⟨pos, hpp⟩ := tb_pool hp
  have hlk : Cond.classLink (cn (mcls k)) idx rk10 ∈ gtl := by
    replace hpp : (match cks[10]? with
      | some q => decide (3 = q.2.2) && decide (q.1 = cn 10) && tb_at pos (Cond.classLink (cn (mcls k)) idx q.1)
      | none => false) = true := hpp
    cases hq : cks[10]? with
    | none => rw [hq] at hpp; cases hpp
    | some q =>
      rw [hq] at hpp
      simp only [Bool.and_eq_true, decide_eq_true_eq] at hpp
      cases hq
      exact tb_in hpp.2
  have hs1 := hok.1
  have hm := (hC _ _ _ _ hc).1
  have hRc := hR.2.2.2.2.2.2.1
  have hRs := hR.2.2.2.2.2.2.2
  have e9 : base + (M.1 - 1) = H.size := by omega
  have e0 : mrv base b (vr M.1) = .ref H.size := by show Value.ref (mad base b M.1) = _; rw [mad_pos hok.1, e9]
  have mm1 : M.1 + 1 ≤ Me.1 := hm.1
  have mm2 : M.2.1 + n.toNat ≤ Me.2.1 := hm.2
  have e2 : base + (M.1 - 1) = H.size := by have := hok.1; omega
  obtain ⟨kB, cp, -, -, -, k4⟩ := (F.2.2.2.2.2.1.2 2 _ rfl).2
  refine W.anew F.1 F.2.1 F.2.2.2.1 (F.2.2.2.2.1 _ hlk) (va_AO.use F.2.2.2.2.2.2.2.2) rfl hd (n := Int32.ofInt n) rfl (oi_nn on h0) (by rw [oi_cl on]; omega) (by omega) (by rw [oi_cl on]; omega) fun cA kA comp f1 f2 f3 f4 => ?_
  have hcA : cA = cW := Option.some.inj (f1.symm.trans k4)
  subst hcA
  rw [oi_cl on]
  generalize hH2 : H.push ({ cls := cA, slots := Array.replicate n.toNat .null, vm := .none } : Cell) = H2
  have z1 : H2.size = H.size + 1 := by rw [← hH2, Array.size_push]
  have e1 : H2[H.size]? = some (arrV cA n.toNat (fun _ => .null)) := by rw [← hH2, Array.getElem?_push_size, ← arrV_new]
  have o1 : ∀ q : Nat, q < H.size → H2[q]? = H[q]? := fun q hq => by rw [← hH2, Array.getElem?_push, if_neg (Nat.ne_of_lt hq)]
  rw [← e0]
  refine (hC _ _ _ _ hc).2 lsr H2 locs (cells + 1) (slots + n.toNat) ⟨hR.1, hR.2.1, ok_c trivial ot, ⟨mok_new hok (by decide) (by omega), by show base + (M.1 + 1) = _; omega, hbb, fun x y1 y2 => ?_⟩, hR.2.2.2.2.1.kept (o1 b (by omega)), hR.2.2.2.2.2.1, by show cells + 1 + (Me.1 - (M.1 + 1)) = cE; have : M.1 + 1 ≤ Me.1 := hm.1; omega, by show slots + n.toNat + (Me.2.1 - (M.2.1 + n.toNat)) = sE; have : M.2.1 + n.toNat ≤ Me.2.1 := hm.2; omega⟩
  by_cases hx : x = M.1
  · subst hx
    have ek : upk M.2.2.1 M.1 (22, n.toNat) M.1 = (22, n.toNat) := if_pos rfl
    refine ⟨fun c2 h2 h3 => ?_, fun n2 h2 => ?_, fun n2 h2 => ?_, fun n2 h2 => ?_⟩
    · have h9 := ek.symm.trans h2; injection h9; omega
    · have h9 := ek.symm.trans h2; injection h9; omega
    · have h9 := ek.symm.trans h2; injection h9; omega
    · have h9 := ek.symm.trans h2
      injection h9 with h9 h10
      subst h10
      rw [e2, e1]
      congr 2
      funext j
      show _ = va_rf (Option.map _ (upz M.2.2.2.1 M.1 none M.1 j))
      unfold upz
      rw [if_pos rfl]
      rfl
  · exact (hcl x y1 (by have : x < M.1 + 1 := y2; omega)).kept (if_neg hx) (by funext j; exact if_neg hx) (by funext j; exact if_neg hx) (o1 _ (by omega))
end SIME
