theorem wd_cat {base b : Nat} (v : MV) : (mrv base b v).category = wd v := by
  match v with
  | Sum.inl x => rfl
  | Sum.inr (Sum.inl x) => rfl
  | Sum.inr (Sum.inr none) => rfl
  | Sum.inr (Sum.inr (some a)) => rfl
theorem wds_cat {base b : Nat} (t : List MV) : ((t.map (mrv base b)).map fun v => v.category).sum = wds t := by
  unfold wds
  rw [List.map_map]
  congr 1
  exact List.map_congr_left fun v _ => wd_cat v
theorem va_X_heap {b L : Nat} {xs : Nat → Int32} {U : State} {H : Heap} (h : va_X b L xs U H) {V : State} (hvm : U.vm.Alike V.vm) : va_X b L xs V H := va_X.moved hvm h
theorem mPc_blind {D : va_G} {cI cZ cW : ClassId} {base b L : Nat} {xs : Nat → Int32} {M : MM} {av : List Value} : FrameBlind (va_Pc av (mPic D cI cZ cW base b L xs M)) := by
  intro a U g mk q
  obtain ⟨q0, q1, q2, q3, q4⟩ := q
  exact ⟨q0, q1, va_K.moved (u := U) (U := U.calling g mk a) (Vm.Alike.refl U.vm) q2, va_X.moved (u := U) (U := U.calling g mk a) (Vm.Alike.refl U.vm) q3, va_AO.moved (u := U) (U := U.calling g mk a) (Vm.Alike.refl U.vm) q4⟩
theorem gtl_good {w : Cond} (h : w ∈ gtl) : goodWord w = true := (List.mem_filter.mp h).2
/-- what the tables say of a method -/
theorem tb_met {y : Nat} (h : y < nMet) : (mname y).cls = cn (mcls y) ∧ plainName (mname y).cls = true ∧ Cond.initialized (mname y).cls ∈ gtl ∧ (mstat y = true → Cond.static (mname y) ∈ gtl) ∧ (mstat y = false → Cond.instanceMethod (mname y) ∈ gtl) ∧ (mstat y = false → ((mname y).name == "<init>") = false → Cond.selects (mname y).cls (mname y) (mname y) ∈ gtl) ∧ (mname y).cls ≠ "java/lang/invoke/MethodHandle" ∧ (mname y).cls ≠ "java/lang/invoke/VarHandle" ∧ mmaxl y ≤ 20 ∧ (((mname y).name == "<init>") = true → mret y = none) ∧ (mstat y = false → mcls y < 12) := by
  have h0 := chkM_k h
  unfold chkM at h0
  dsimp only at h0
  simp only [Bool.and_eq_true, decide_eq_true_eq] at h0
  obtain ⟨⟨⟨⟨⟨⟨⟨⟨⟨h1, h2⟩, h3⟩, h4⟩, h5⟩, h6⟩, h7⟩, h8⟩, h9⟩, h10⟩ := h0
  refine ⟨h1, h2, tb_in h3, fun e => ?_, fun e => ?_, fun e e2 => ?_, h6, h7, h8, fun e => ?_, fun e => ?_⟩
  · have e1 : (mro y).2.2.2.2.2.1 = true := e
    rw [e1] at h4
    exact tb_in h4
  · have e1 : (mro y).2.2.2.2.2.1 = false := e
    rw [e1] at h4
    exact tb_in h4
  · have e1 : (mro y).2.2.2.2.2.1 = false := e
    have e3 : ((mro y).1.name == "<init>") = false := e2
    rw [e1, e3] at h5
    exact tb_in h5
  · have e3 : ((mro y).1.name == "<init>") = true := e
    rw [if_pos e3] at h9
    exact of_decide_eq_true h9
  · have e1 : (mro y).2.2.2.2.2.1 = false := e
    rw [e1] at h10
    have h11 : (mro y).2.2.2.2.1 < 12 := by simpa using h10
    exact h11
theorem mws_good {y : Nat} (h : y < nMet) : GoodIn gtl (mws y) := by
  have hc : Cond.code (mname y) (mcode y) (mmaxl y) (mret y) ∈ gtl := gtl_of (code_k h) rfl
  intro w hw
  have h1 : w ∈ gtl := by
    rcases List.mem_cons.mp hw with q | q
    · rw [q]; exact hc
    · exact q
  exact ⟨h1, good_of_word (gtl_good h1)⟩
theorem z_goes {p : Program} {l : Launch} {e : Env} {RR : Room} {s : State} {m : MethodId} {args : Array Value} {below : List Frame} {meth : Method} {c : Code} {Q : State → Prop} {H : Heap} {locs : List Loc} {cells slots mc ms pc : Nat} {lsr : Array Slot} {st0 rest : List Value} {Qa : State → Outcome → State → Prop} {free : Addr → Prop}
    (hr : va_Run p l e RR s m args below meth c H locs cells slots mc ms (F0 m pc lsr st0) rest Qa free)
    (kk : ∀ (v : Option Value) (st1 t : State) (H2 : Heap) (L2 : List Loc), t.heap = H2 → s.vm.Alike t.vm → Qa st1 (.returned v) t → (∀ q ∈ L2, free q.base) → W p l e RR s m args below meth c H2 (locs ++ L2) (cells + mc) (slots + ms) Q (F0 m (pc + 3) lsr (v.toList ++ rest))) : W p l e RR s m args below meth c H locs cells slots Q (F0 m pc lsr st0) := by
  intro T hT X
  obtain ⟨v, st₀, t, T', L2, h0, X', hL, e1, e2, hq, go⟩ := hr T hT X
  obtain ⟨t2, a1, b1⟩ := kk v st₀ t T'.heap L2 e1.symm (by rw [← e2]; exact X'.warmed.alike) hq hL T' rfl X'
  exact ⟨t2, go t2 a1, b1⟩
theorem toL {base b : Nat} (r : Option MV) (t : List MV) : (r.map (mrv base b)).toList ++ t.map (mrv base b) = (r.toList ++ t).map (mrv base b) := by
  cases r <;> rfl
section SIMF
variable {p : Program} {l : Launch} {e : Env} {RR : Room} {s : State} {m : MethodId} {args : Array Value} {below : List Frame} {meth : Method} {c : Code} {Q : State → Prop} {D : va_G} {cI cZ cW : ClassId} {base b L : Nat} {xs : Nat → Int32} {k cE sE d : Nat} {Me : MM} {C : Nx} {call : Cl}
variable {ls st : List MV} {M : MM} {lsr : Array Slot} {H : Heap} {locs : List Loc} {cells slots pc len : Nat}
theorem z_copy {idx : Nat} {n dp sp : Int} {b2 a g na nb : Nat} {t : List MV} (hRm : d + 1 ≤ RR.frames ∧ 60 * (d + 1) ≤ RR.locals) (F : mFix p s m args meth c D cI cZ cW base b k) (hC : SimC p l e RR s m args below meth c Q D cI cZ cW base b L xs k cE sE Me C) (hR : RS D cI cZ cW base b L xs s k cE sE Me ls (vi n :: vi dp :: vr b2 :: vi sp :: vr a :: t) M lsr H locs cells slots) (hd : decode (mcode k) pc = .ok (.invokestatic idx, 3))
    (hp : pool (mcls k) idx = some (6, 0, 0)) (hw : wds t ≤ 8) (ha : M.2.2.1 a = (g, na)) (hb2 : M.2.2.1 b2 = (g, nb)) (hg : g = 20 ∨ g = 21) (h0 : 0 ≤ n) (h1 : 0 ≤ dp) (h2 : 0 ≤ sp) (h3 : sp + n ≤ (na : Int)) (h4 : dp + n ≤ (nb : Int))
    (hc : C (pc + 3) ls t (M.1, M.2.1, M.2.2.1, M.2.2.2.1, cpI M.2.2.2.2 a b2 sp.toNat dp.toNat n.toNat)) : W p l e RR s m args below meth c H locs cells slots Q (F0 m pc lsr ((vi n :: vi dp :: vr b2 :: vi sp :: vr a :: t).map (mrv base b))) := by
  obtain ⟨on, odp, ot1⟩ := ok_2 hR.2.2.1
  obtain ⟨-, osp, ot2⟩ := ok_2 ot1
  obtain ⟨-, ot⟩ := ok_1 ot2
  replace on : inI n := on
  replace odp : inI dp := odp
  replace osp : inI sp := osp
  obtain ⟨pos, hpp⟩ := tb_pool hp
  obtain ⟨hok, hsz, hbb, hcl⟩ := id hR.2.2.2.1
  obtain ⟨a1, a2⟩ := mok_lt hok ha (by omega) (by omega)
  obtain ⟨b1, b3⟩ := mok_lt hok hb2 (by omega) (by omega)
  have e0 : mrv base b (vr a) = .ref (base + (a - 1)) := by show Value.ref (mad base b a) = _; rw [mad_pos a1]
  have e1 : mrv base b (vr b2) = .ref (base + (b2 - 1)) := by show Value.ref (mad base b b2) = _; rw [mad_pos b1]
  have hcells : ∃ (cA : ClassId) (ty : FieldType), refKind ty = false ∧ ArrOfT s cA ty ∧ H[base + (a - 1)]? = some (arrV cA na (fun j => .int (Int32.ofInt (M.2.2.2.2 a j)))) ∧ H[base + (b2 - 1)]? = some (arrV cA nb (fun j => .int (Int32.ofInt (M.2.2.2.2 b2 j)))) ∧ (∀ j, fits ty (.int (Int32.ofInt (M.2.2.2.2 a j))) = true) ∧
      ∀ (H2 : Heap) (I2 : Nat → Nat → Int), H2[base + (b2 - 1)]? = some (arrV cA nb (fun j => .int (Int32.ofInt (I2 b2 j)))) → mcell D cI cZ cW base b M.2.2.1 M.2.2.2.1 I2 b2 H2 := by
    rcases hg with rfl | rfl
    · refine ⟨cI, .int, rfl, (F.2.2.2.2.2.1.2 0 _ rfl).1, (hcl a a1 a2).2.1 _ ha, (hcl b2 b1 b3).2.1 _ hb2, fun j => rfl, fun H2 I2 h5 => ⟨fun c2 h6 => ?_, fun n2 h6 => ?_, fun n2 h6 => ?_, fun n2 h6 => ?_⟩⟩
      · have h9 := hb2.symm.trans h6; injection h9; omega
      · have h9 := hb2.symm.trans h6; injection h9 with h9 h10; subst h10; exact h5
      · have h9 := hb2.symm.trans h6; injection h9; omega
      · have h9 := hb2.symm.trans h6; injection h9; omega
    · refine ⟨cZ, .boolean, rfl, (F.2.2.2.2.2.1.2 1 _ rfl).1, (hcl a a1 a2).2.2.1 _ ha, (hcl b2 b1 b3).2.2.1 _ hb2, fun j => ?_, fun H2 I2 h5 => ⟨fun c2 h6 => ?_, fun n2 h6 => ?_, fun n2 h6 => ?_, fun n2 h6 => ?_⟩⟩
      · rcases hok.2.2.2.2.1 a na j ha with h9 | h9 <;> rw [h9] <;> rfl
      · have h9 := hb2.symm.trans h6; injection h9; omega
      · have h9 := hb2.symm.trans h6; injection h9; omega
      · have h9 := hb2.symm.trans h6; injection h9 with h9 h10; subst h10; exact h5
      · have h9 := hb2.symm.trans h6; injection h9; omega
  obtain ⟨cA, ty, hprim, hArr, hc0, hc1, hfit, hnew⟩ := hcells
  have cn2 := oi_cl on
  have cd2 := oi_cl odp
  have cs2 := oi_cl osp
  have tn := oi_to on
  have td := oi_to odp
  have ts := oi_to osp
  have nfr := nfw
  intro T hT X
  obtain ⟨-, k0, hk0, cm0, hkk0⟩ := hArr na (fun j => .int (Int32.ofInt (M.2.2.2.2 a j)))
  obtain ⟨-, k1, hk1, cm1, hkk1⟩ := hArr nb (fun j => .int (Int32.ofInt (M.2.2.2.2 b2 j)))
  rw [List.map_cons, List.map_cons, List.map_cons, List.map_cons, List.map_cons, e0, e1]
  obtain ⟨vm', X', step⟩ := X.arraycopy F.1 F.2.2.2.1 (F.2.2.2.2.1 _ (tb_in (i := pos) hpp)) (F.2.2.2.2.1 _ tb_nat) (F.2.2.2.2.1 _ tb_acs) (F.2.2.2.2.1 _ tb_sys) (src := base + (a - 1)) (dst := base + (b2 - 1)) (cs := arrV cA na (fun j => .int (Int32.ofInt (M.2.2.2.2 a j)))) (cd := arrV cA nb (fun j => .int (Int32.ofInt (M.2.2.2.2 b2 j)))) (srcPos := Int32.ofInt sp) (destPos := Int32.ofInt dp) (n := Int32.ofInt n) (by rw [hT]; exact hc0) (by rw [hT]; exact hc1)
    (fun _ h => by cases h) (fun _ h => by cases h) (fun h => by cases h) (fun h => by cases h) hk0 hk1 hkk0 hkk1 (by simp [hprim]) (oi_nn osp h2) (oi_nn odp h1) (oi_nn on h0)
    (by rw [ts, tn, arrV_size]; omega)
    (by rw [td, tn, arrV_size]; omega)
    (fun vm₁ _ i hi => by
      rw [cn2] at hi
      rw [cs2]
      have e : (arrV cA na (fun j => Value.int (Int32.ofInt (M.2.2.2.2 a j)))).slots.getD (sp.toNat + i) .null = .int (Int32.ofInt (M.2.2.2.2 a (sp.toNat + i))) := by
        rw [Array.getD_eq_getD_getElem?, arrV_read _ _ (by omega)]
        rfl
      refine ⟨?_, ?_⟩
      · rw [e]
        exact hfit _
      · rw [e]
        exact trivial)
    (g := F0 m pc lsr (.int (Int32.ofInt n) :: .int (Int32.ofInt dp) :: .ref (base + (b2 - 1)) :: .int (Int32.ofInt sp) :: .ref (base + (a - 1)) :: t.map (mrv base b))) rfl (by rw [F.2.2.1]; exact hR.1.1) (rest := t.map (mrv base b)) rfl (by rw [F.2.1]; exact hd) (by omega) (by rw [wds_cat]; show 2 * 0 + _ + _ ≤ _; omega)
  have ec : copied (arrV cA na (fun j => Value.int (Int32.ofInt (M.2.2.2.2 a j)))) (arrV cA nb (fun j => Value.int (Int32.ofInt (M.2.2.2.2 b2 j)))) (Int32.ofInt sp) (Int32.ofInt dp) (Int32.ofInt n) = arrV cA nb (fun j => .int (Int32.ofInt (cpI M.2.2.2.2 a b2 sp.toNat dp.toNat n.toNat b2 j))) := by
    have h9 := va_copied (fun z => Value.int z) cA cA (n1 := nb) (dp := dp.toNat) (fun j => Int32.ofInt (M.2.2.2.2 a j)) (fun j => Int32.ofInt (M.2.2.2.2 b2 j)) (show sp.toNat + n.toNat ≤ na by omega)
    unfold copied
    rw [cn2, cd2, cs2, h9]
    congr 1
    funext j
    unfold va_cpy cpI
    by_cases q : dp.toNat ≤ j ∧ j < dp.toNat + n.toNat
    · rw [if_pos q, if_pos ⟨rfl, q⟩]
    · rw [if_neg q, if_neg (fun z => q z.2)]
  rw [ec] at X' step
  have hl : base + (b2 - 1) < H.size := (Array.getElem?_eq_some_iff.mp hc1).1
  generalize hcell : arrV cA nb (fun j => .int (Int32.ofInt (cpI M.2.2.2.2 a b2 sp.toNat dp.toNat n.toNat b2 j))) = cell at X' step
  have hheap : ((T.setVm vm').setCell (base + (b2 - 1)) cell).heap = H.setIfInBounds (base + (b2 - 1)) cell := by rw [← hT]; rfl
  have oq : ∀ q : Nat, q ≠ base + (b2 - 1) → (H.setIfInBounds (base + (b2 - 1)) cell)[q]? = H[q]? := fun q hq => by simp [Array.getElem?_setIfInBounds, Ne.symm hq]
  have hmo : mok L xs M.1 M.2.2.1 (cpI M.2.2.2.2 a b2 sp.toNat dp.toNat n.toNat) := by
    obtain ⟨g1, g2, g3, g4, g5, g6, g7, g8⟩ := hok
    refine ⟨g1, g2, g3, fun x i => ?_, fun x n2 i hx => ?_, fun i hi => ?_, g7, g8⟩
    · unfold cpI; split
      · exact g4 _ _
      · exact g4 _ _
    · unfold cpI; split
      · rename_i q
        have h9 := hb2.symm.trans (q.1 ▸ hx)
        injection h9 with h9 h10
        exact g5 a na _ (by rw [ha, h9])
      · exact g5 x n2 i hx
    · unfold cpI; rw [if_neg (by omega)]; exact g6 i hi
  have hrs : ∀ L2 : List Loc, (∀ q ∈ L2, q.base = base + (b2 - 1)) → RS D cI cZ cW base b L xs s k cE sE Me ls t (M.1, M.2.1, M.2.2.1, M.2.2.2.1, cpI M.2.2.2.2 a b2 sp.toNat dp.toNat n.toNat) lsr (H.setIfInBounds (base + (b2 - 1)) cell) (locs ++ L2) cells slots := by
    intro L2 hL2
    refine ⟨hR.1, hR.2.1, ot, mHR_put hR.2.2.2.1 b1 rfl rfl (fun _ _ => rfl) (fun x hx => by funext i; exact if_neg (fun q => hx q.1)) hmo (by simp) oq (hnew _ _ (by rw [hcell]; simp [Array.getElem?_setIfInBounds, hl])), hR.2.2.2.2.1.kept (oq b (by omega)), fun q hq => ?_, hR.2.2.2.2.2.2.1, hR.2.2.2.2.2.2.2⟩
    rcases List.mem_append.mp hq with h9 | h9
    · exact hR.2.2.2.2.2.1 q h9
    · rw [hL2 q h9]
      exact Nat.le_add_right _ _
  obtain ⟨t2, y1, y2⟩ := (hC _ _ _ _ hc).2 lsr _ _ cells slots (hrs _ (fun q hq => by
    obtain ⟨z, -, hz⟩ := List.mem_map.mp hq
    rw [← hz])) _ hheap X'
  exact ⟨t2, step t2 y1, y2⟩
theorem z_invokevirtual {idx : Nat} (hE : cE ≤ RR.cells ∧ sE ≤ RR.slots) (hRm : d + 1 ≤ RR.frames ∧ 60 * (d + 1) ≤ RR.locals) (IH : ∀ y a M r M1, call y a M r M1 → y < nMet → (M.1 ≤ M1.1 ∧ M.2.1 ≤ M1.2.1) ∧ mMet d y a M r M1) (F : mFix p s m args meth c D cI cZ cW base b k) (hC : SimC p l e RR s m args below meth c Q D cI cZ cW base b L xs k cE sE Me C) (hR : RS D cI cZ cW base b L xs s k cE sE Me ls st M lsr H locs cells slots) (hd : decode (mcode k) pc = .ok (.invokevirtual idx, len)) (h : stepI call k (.invokevirtual idx) len pc ls st M C) : W p l e RR s m args below meth c H locs cells slots Q (F0 m pc lsr (st.map (mrv base b))) := by
  obtain ⟨rfl, y, n, as, a, t, r, M1, hp, rfl, has, ha, hst, hni, hw, hcall, hc⟩ := h
  have oas : ∀ v ∈ as, vok v := fun v hv => hR.2.2.1 v (List.mem_append_left _ (List.mem_reverse.mpr hv))
  have ot : ∀ v ∈ t, vok v := fun v hv => hR.2.2.1 v (List.mem_append_right _ (List.mem_cons_of_mem _ hv))
  obtain ⟨pos, hpp⟩ := tb_pool hp
  replace hpp : (decide (y < nMet) && tb_at pos (Cond.methodLink (cn (mcls k)) idx (mname y)) && decide (nPar (mname y).desc = some n)) = true := hpp
  simp only [Bool.and_eq_true, decide_eq_true_eq] at hpp
  obtain ⟨⟨hy, hlk⟩, hnp⟩ := hpp
  obtain ⟨t1, t2, t3, t4, t5, t6, t7, t8, t9, t10, t11⟩ := tb_met hy
  obtain ⟨hmo, hMet⟩ := IH y _ M r M1 hcall hy
  have hm := (hC _ _ _ _ hc).1
  have cb := callB_of (R := RR) (own := cn (mcls k)) (index := idx) (rm := mrm d (M1.1 - M.1) (M1.2.1 - M.2.1)) n F.2.2.2.2.1 (mws_good hy) rfl rfl rfl (F.2.2.2.2.1 _ t3) (F.2.2.2.2.1 _ (tb_in hlk)) ⟨t7, t8, hnp⟩ ⟨hRm.1, by show 8 + (mmaxl y + 11) + 60 * d ≤ _; omega⟩
  have hroom : cells + (M1.1 - M.1) ≤ RR.cells ∧ slots + (M1.2.1 - M.2.1) ≤ RR.slots := by
    have q1 := hR.2.2.2.2.2.2.1
    have q2 := hR.2.2.2.2.2.2.2
    omega
  obtain ⟨hok, hsz, hbb, hcl⟩ := id hR.2.2.2.1
  have hcy : mcls y < cks.length := t11 hst
  obtain ⟨q, hq⟩ : ∃ q : vw_C, cks[mcls y]? = some q := ⟨_, List.getElem?_eq_getElem hcy⟩
  have hcc : mcls y < 12 := (List.getElem?_eq_some_iff.mp hq).1
  obtain ⟨a1, a2⟩ := mok_lt hok ha (by omega) (by omega)
  obtain ⟨r0, hr0, cell, q1, q2, q3, q4⟩ := (hcl a a1 a2).1 _ ha hcc
  have hfc := (F.2.2.2.2.2.1.1 _ q hq).2.1
  obtain ⟨-, -, -, -, hcn, -⟩ := tb_cls hq
  have e0 : mrv base b (vr a) = .ref (base + (a - 1)) := by show Value.ref (mad base b a) = _; rw [mad_pos a1]
  have hM := hMet l D cI cZ cW base b L xs (ok_c trivial oas)
  rw [List.map_cons, e0] at hM
  have key : ∀ (v : Option Value) (st1 u : State) (H2 : Heap) (L2 : List Loc), u.heap = H2 → s.vm.Alike u.vm → mQc D cI cZ cW base b L xs r M1 (Value.ref (base + (a - 1)) :: as.map (mrv base b)).toArray st1 (.returned v) u → (∀ q ∈ L2, base ≤ q.base) → W p l e RR s m args below meth c H2 (locs ++ L2) (cells + (M1.1 - M.1)) (slots + (M1.2.1 - M.2.1)) Q (F0 m (pc + 3) lsr (v.toList ++ t.map (mrv base b))) := by
    intro v st1 u H2 L2 h1 h2 h3 h4
    obtain ⟨h5, ⟨h6, h7, h8, h9⟩, h10⟩ := h3
    injection h5 with h5
    rw [h5, toL]
    rw [h1] at h6 h8
    have hm := (hC _ _ _ _ hc).1
    refine (hC _ _ _ _ hc).2 lsr H2 _ _ _ ⟨hR.1, hR.2.1, fun v hv => ?_, h6, va_X.moved h2.symm h8, fun q hq => ?_, ?_, ?_⟩
    · rcases List.mem_append.mp hv with g | g
      · exact h10 v (by cases r with
          | none => cases g
          | some x => rw [List.mem_singleton.mp g])
      · exact ot v g
    · rcases List.mem_append.mp hq with g | g
      · exact hR.2.2.2.2.2.1 q g
      · exact h4 q g
    · have := hR.2.2.2.2.2.2.1; omega
    · have := hR.2.2.2.2.2.2.2; omega
  rw [List.map_append, List.map_cons, e0, List.map_reverse]
  exact z_goes (va_runV (C := (mname y).cls) (As := as.map (mrv base b)) (rest := t.map (mrv base b)) ⟨F.1, F.2.1, F.2.2.1, F.2.2.2.1, F.2.2.2.2.1⟩ hM ⟨cb, F.2.2.2.2.1 _ (t5 hst), F.2.2.2.2.1 _ (t6 hst hni)⟩ ⟨mPc_blind, ⟨cell, q1, by rw [q3]; rfl, by rw [q2, t1, ← hcn]; exact hfc⟩, fun U hU hW => ⟨rfl, by rw [hU]; exact hR.2.2.2.1, va_K.moved hW.alike F.2.2.2.2.2.1, by rw [hU]; exact va_X.moved hW.alike hR.2.2.2.2.1, va_AO.moved hW.alike F.2.2.2.2.2.2.2.2⟩⟩ rfl (by rw [List.length_map]; exact has) hR.1.1 rfl (lv_room (by rw [wds_cat]; exact hw)) hd hroom) key
theorem z_invokestatic {idx : Nat} (hE : cE ≤ RR.cells ∧ sE ≤ RR.slots) (hRm : d + 1 ≤ RR.frames ∧ 60 * (d + 1) ≤ RR.locals) (IH : ∀ y a M r M1, call y a M r M1 → y < nMet → (M.1 ≤ M1.1 ∧ M.2.1 ≤ M1.2.1) ∧ mMet d y a M r M1) (F : mFix p s m args meth c D cI cZ cW base b k) (hC : SimC p l e RR s m args below meth c Q D cI cZ cW base b L xs k cE sE Me C) (hR : RS D cI cZ cW base b L xs s k cE sE Me ls st M lsr H locs cells slots) (hd : decode (mcode k) pc = .ok (.invokestatic idx, len)) (h : stepI call k (.invokestatic idx) len pc ls st M C) : W p l e RR s m args below meth c H locs cells slots Q (F0 m pc lsr (st.map (mrv base b))) := by
  obtain ⟨rfl, h | h | h | h | h | h⟩ := h
  · obtain ⟨y, n, as, t, r, M1, hp, rfl, has, hst, hw, hcall, hc⟩ := h
    have oas : ∀ v ∈ as, vok v := fun v hv => hR.2.2.1 v (List.mem_append_left _ (List.mem_reverse.mpr hv))
    have ot : ∀ v ∈ t, vok v := fun v hv => hR.2.2.1 v (List.mem_append_right _ hv)
    obtain ⟨pos, hpp⟩ := tb_pool hp
    replace hpp : (decide (y < nMet) && tb_at pos (Cond.methodLink (cn (mcls k)) idx (mname y)) && decide (nPar (mname y).desc = some n)) = true := hpp
    simp only [Bool.and_eq_true, decide_eq_true_eq] at hpp
    obtain ⟨⟨hy, hlk⟩, hnp⟩ := hpp
    obtain ⟨t1, t2, t3, t4, t5, t6, t7, t8, t9, t10, t11⟩ := tb_met hy
    obtain ⟨hmo, hMet⟩ := IH y _ M r M1 hcall hy
    have hm := (hC _ _ _ _ hc).1
    have cb := callB_of (R := RR) (own := cn (mcls k)) (index := idx) (rm := mrm d (M1.1 - M.1) (M1.2.1 - M.2.1)) n F.2.2.2.2.1 (mws_good hy) rfl rfl rfl (F.2.2.2.2.1 _ t3) (F.2.2.2.2.1 _ (tb_in hlk)) ⟨t7, t8, hnp⟩ ⟨hRm.1, by show 8 + (mmaxl y + 11) + 60 * d ≤ _; omega⟩
    have hroom : cells + (M1.1 - M.1) ≤ RR.cells ∧ slots + (M1.2.1 - M.2.1) ≤ RR.slots := by
      have q1 := hR.2.2.2.2.2.2.1
      have q2 := hR.2.2.2.2.2.2.2
      omega
    have hM := hMet l D cI cZ cW base b L xs oas
    have key : ∀ (v : Option Value) (st1 u : State) (H2 : Heap) (L2 : List Loc), u.heap = H2 → s.vm.Alike u.vm → mQc D cI cZ cW base b L xs r M1 (as.map (mrv base b)).toArray st1 (.returned v) u → (∀ q ∈ L2, base ≤ q.base) → W p l e RR s m args below meth c H2 (locs ++ L2) (cells + (M1.1 - M.1)) (slots + (M1.2.1 - M.2.1)) Q (F0 m (pc + 3) lsr (v.toList ++ t.map (mrv base b))) := by
      intro v st1 u H2 L2 h1 h2 h3 h4
      obtain ⟨h5, ⟨h6, h7, h8, h9⟩, h10⟩ := h3
      injection h5 with h5
      rw [h5, toL]
      rw [h1] at h6 h8
      have hm := (hC _ _ _ _ hc).1
      refine (hC _ _ _ _ hc).2 lsr H2 _ _ _ ⟨hR.1, hR.2.1, fun v hv => ?_, h6, va_X.moved h2.symm h8, fun q hq => ?_, ?_, ?_⟩
      · rcases List.mem_append.mp hv with g | g
        · exact h10 v (by cases r with
            | none => cases g
            | some x => rw [List.mem_singleton.mp g])
        · exact ot v g
      · rcases List.mem_append.mp hq with g | g
        · exact hR.2.2.2.2.2.1 q g
        · exact h4 q g
      · have := hR.2.2.2.2.2.2.1; omega
      · have := hR.2.2.2.2.2.2.2; omega
    rw [List.map_append, List.map_reverse]
    exact z_goes (va_runS (As := as.map (mrv base b)) (rest := t.map (mrv base b)) ⟨F.1, F.2.1, F.2.2.1, F.2.2.2.1, F.2.2.2.2.1⟩ hM ⟨cb, F.2.2.2.2.1 _ (t4 hst)⟩ ⟨mPc_blind, fun U hU hW => ⟨rfl, by rw [hU]; exact hR.2.2.2.1, va_K.moved hW.alike F.2.2.2.2.2.1, by rw [hU]; exact va_X.moved hW.alike hR.2.2.2.2.1, va_AO.moved hW.alike F.2.2.2.2.2.2.2.2⟩⟩ rfl (by rw [List.length_map]; exact has) hR.1.1 rfl (lv_room (by rw [wds_cat]; exact hw)) hd hroom) key
  · obtain ⟨n, dp, b2, sp, a, g, na, nb, t, hp, rfl, hw, ha, hb2, hg, h0, h1, h2, h3, h4, hc⟩ := h
    exact z_copy hRm F hC hR hd hp hw ha hb2 hg h0 h1 h2 h3 h4 hc
  · obtain ⟨x, y, t, hp, rfl, hw, hc⟩ := h
    obtain ⟨oy, ox, ot⟩ := ok_2 hR.2.2.1
    obtain ⟨pos, hpp⟩ := tb_pool hp
    have hx := (hC _ _ _ _ hc).2 lsr H locs cells slots (hR.sk (ok_c (y := vi (mxI x y)) (by show inI (mxI x y); unfold mxI; split; exact oy; exact ox) ot))
    have q1 := hR.2.2.2.2.2.2.1
    have q2 := hR.2.2.2.2.2.2.2
    refine va_mmax (x := Int32.ofInt x) (y := Int32.ofInt y) (rest := t.map (mrv base b)) F.1 F.2.1 (by rw [F.2.2.1]; exact hR.1.1.symm) F.2.2.2.1 (F.2.2.2.2.1 _ (tb_in (i := pos) hpp)) (F.2.2.2.2.1 _ tb_mmax) (F.2.2.2.2.1 _ tb_mi) (F.2.2.2.2.1 _ tb_mmaxc) (by omega) (by rw [wds_cat]; omega) (by omega) (by omega) hd ?_
    have e1 : (if Int32.ofInt x < Int32.ofInt y then Int32.ofInt y else Int32.ofInt x) = Int32.ofInt (mxI x y) := by
      unfold mxI
      by_cases q : x < y
      · rw [if_pos ((oi_lt ox oy).mpr q), if_pos q]
      · rw [if_neg (fun z => q ((oi_lt ox oy).mp z)), if_neg q]
    rw [e1]
    exact hx
  · obtain ⟨x, y, t, hp, rfl, hw, hc⟩ := h
    obtain ⟨oy, ox, ot⟩ := ok_2 hR.2.2.1
    obtain ⟨pos, hpp⟩ := tb_pool hp
    have hx := (hC _ _ _ _ hc).2 lsr H locs cells slots (hR.sk (ok_c (y := vi (mnI x y)) (by show inI (mnI x y); unfold mnI; split; exact oy; exact ox) ot))
    have q1 := hR.2.2.2.2.2.2.1
    have q2 := hR.2.2.2.2.2.2.2
    refine va_mmin (x := Int32.ofInt x) (y := Int32.ofInt y) (rest := t.map (mrv base b)) F.1 F.2.1 (by rw [F.2.2.1]; exact hR.1.1.symm) F.2.2.2.1 (F.2.2.2.2.1 _ (tb_in (i := pos) hpp)) (F.2.2.2.2.1 _ tb_mmin) (F.2.2.2.2.1 _ tb_mi) (F.2.2.2.2.1 _ tb_mminc) (by omega) (by rw [wds_cat]; omega) (by omega) (by omega) hd ?_
    have e1 : (if Int32.ofInt y < Int32.ofInt x then Int32.ofInt y else Int32.ofInt x) = Int32.ofInt (mnI x y) := by
      unfold mnI
      by_cases q : y < x
      · rw [if_pos ((oi_lt oy ox).mpr q), if_pos q]
      · rw [if_neg (fun z => q ((oi_lt oy ox).mp z)), if_neg q]
    rw [e1]
    exact hx
  · obtain ⟨x, t, hp, rfl, hw, hc⟩ := h
    obtain ⟨ox, ot⟩ := ok_1 hR.2.2.1
    obtain ⟨pos, hpp⟩ := tb_pool hp
    have hx := (hC _ _ _ _ hc).2 lsr H locs cells slots (hR.sk (ok_c (y := vi (abI x)) (by show inI (abI x); unfold abI; split; exact ox; exact wI_in _) ot))
    have q1 := hR.2.2.2.2.2.2.1
    have q2 := hR.2.2.2.2.2.2.2
    refine va_mabs (x := Int32.ofInt x) (rest := t.map (mrv base b)) F.1 F.2.1 (by rw [F.2.2.1]; exact hR.1.1.symm) F.2.2.2.1 (F.2.2.2.2.1 _ (tb_in (i := pos) hpp)) (F.2.2.2.2.1 _ tb_mabs) (F.2.2.2.2.1 _ tb_mi) (F.2.2.2.2.1 _ tb_mabsc) (by omega) (by rw [wds_cat]; omega) (by omega) (by omega) hd ?_
    have e1 : (if 0 ≤ Int32.ofInt x then Int32.ofInt x else 0 - Int32.ofInt x) = Int32.ofInt (abI x) := by
      unfold abI
      rw [← oi_0, oi_sub]
      by_cases q : 0 ≤ x
      · rw [if_pos ((oi_le ⟨by decide, by decide⟩ ox).mpr q), if_pos q]
      · rw [if_neg (fun z => q ((oi_le ⟨by decide, by decide⟩ ox).mp z)), if_neg q]
    rw [e1]
    exact hx
  · obtain ⟨x, t, hp, rfl, hw, hc⟩ := h
    obtain ⟨ox, ot⟩ := ok_1 hR.2.2.1
    obtain ⟨pos, hpp⟩ := tb_pool hp
    cases (show false = true from hpp)
theorem z_invokespecial {idx : Nat} (hE : cE ≤ RR.cells ∧ sE ≤ RR.slots) (hRm : d + 1 ≤ RR.frames ∧ 60 * (d + 1) ≤ RR.locals) (IH : ∀ y a M r M1, call y a M r M1 → y < nMet → (M.1 ≤ M1.1 ∧ M.2.1 ≤ M1.2.1) ∧ mMet d y a M r M1) (F : mFix p s m args meth c D cI cZ cW base b k) (hC : SimC p l e RR s m args below meth c Q D cI cZ cW base b L xs k cE sE Me C) (hR : RS D cI cZ cW base b L xs s k cE sE Me ls st M lsr H locs cells slots) (hd : decode (mcode k) pc = .ok (.invokespecial idx, len)) (h : stepI call k (.invokespecial idx) len pc ls st M C) : W p l e RR s m args below meth c H locs cells slots Q (F0 m pc lsr (st.map (mrv base b))) := by
  obtain ⟨rfl, h | h⟩ := h
  · obtain ⟨y, n, as, a, t, M1, hp, rfl, has, hst, hni, hw, hcall, hc⟩ := h
    have oas : ∀ v ∈ as, vok v := fun v hv => hR.2.2.1 v (List.mem_append_left _ (List.mem_reverse.mpr hv))
    have ot : ∀ v ∈ t, vok v := fun v hv => hR.2.2.1 v (List.mem_append_right _ (List.mem_cons_of_mem _ hv))
    obtain ⟨r, hrr⟩ : ∃ r : Option MV, r = none := ⟨_, rfl⟩
    rw [← hrr] at hcall
    replace hc : C (pc + 3) ls (r.toList ++ t) M1 := by rw [hrr]; exact hc
    obtain ⟨pos, hpp⟩ := tb_pool hp
    replace hpp : (decide (y < nMet) && tb_at pos (Cond.methodLink (cn (mcls k)) idx (mname y)) && decide (nPar (mname y).desc = some n)) = true := hpp
    simp only [Bool.and_eq_true, decide_eq_true_eq] at hpp
    obtain ⟨⟨hy, hlk⟩, hnp⟩ := hpp
    obtain ⟨t1, t2, t3, t4, t5, t6, t7, t8, t9, t10, t11⟩ := tb_met hy
    obtain ⟨hmo, hMet⟩ := IH y _ M r M1 hcall hy
    have hm := (hC _ _ _ _ hc).1
    have cb := callB_of (R := RR) (own := cn (mcls k)) (index := idx) (rm := mrm d (M1.1 - M.1) (M1.2.1 - M.2.1)) n F.2.2.2.2.1 (mws_good hy) rfl rfl rfl (F.2.2.2.2.1 _ t3) (F.2.2.2.2.1 _ (tb_in hlk)) ⟨t7, t8, hnp⟩ ⟨hRm.1, by show 8 + (mmaxl y + 11) + 60 * d ≤ _; omega⟩
    have hroom : cells + (M1.1 - M.1) ≤ RR.cells ∧ slots + (M1.2.1 - M.2.1) ≤ RR.slots := by
      have q1 := hR.2.2.2.2.2.2.1
      have q2 := hR.2.2.2.2.2.2.2
      omega
    obtain ⟨z, hz⟩ : ∃ z : Nat, mrv base b (vr a) = .ref z := ⟨_, rfl⟩
    have hM := hMet l D cI cZ cW base b L xs (ok_c trivial oas)
    rw [List.map_cons, hz] at hM
    rw [t10 hni] at cb
    have key : ∀ (v : Option Value) (st1 u : State) (H2 : Heap) (L2 : List Loc), u.heap = H2 → s.vm.Alike u.vm → mQc D cI cZ cW base b L xs r M1 (Value.ref z :: as.map (mrv base b)).toArray st1 (.returned v) u → (∀ q ∈ L2, base ≤ q.base) → W p l e RR s m args below meth c H2 (locs ++ L2) (cells + (M1.1 - M.1)) (slots + (M1.2.1 - M.2.1)) Q (F0 m (pc + 3) lsr (v.toList ++ t.map (mrv base b))) := by
      intro v st1 u H2 L2 h1 h2 h3 h4
      obtain ⟨h5, ⟨h6, h7, h8, h9⟩, h10⟩ := h3
      injection h5 with h5
      rw [h5, toL]
      rw [h1] at h6 h8
      have hm := (hC _ _ _ _ hc).1
      refine (hC _ _ _ _ hc).2 lsr H2 _ _ _ ⟨hR.1, hR.2.1, fun v hv => ?_, h6, va_X.moved h2.symm h8, fun q hq => ?_, ?_, ?_⟩
      · rcases List.mem_append.mp hv with g | g
        · exact h10 v (by cases r with
            | none => cases g
            | some x => rw [List.mem_singleton.mp g])
        · exact ot v g
      · rcases List.mem_append.mp hq with g | g
        · exact hR.2.2.2.2.2.1 q g
        · exact h4 q g
      · have := hR.2.2.2.2.2.2.1; omega
      · have := hR.2.2.2.2.2.2.2; omega
    rw [List.map_append, List.map_cons, hz, List.map_reverse]
    exact z_goes (va_runI (b := z) (As := as.map (mrv base b)) (rest := t.map (mrv base b)) ⟨F.1, F.2.1, F.2.2.1, F.2.2.2.1, F.2.2.2.2.1⟩ hM ⟨cb, by simpa using hni, F.2.2.2.2.1 _ (t5 hst)⟩ ⟨mPc_blind, fun U hU hW => ⟨rfl, by rw [hU]; exact hR.2.2.2.1, va_K.moved hW.alike F.2.2.2.2.2.1, by rw [hU]; exact va_X.moved hW.alike hR.2.2.2.2.1, va_AO.moved hW.alike F.2.2.2.2.2.2.2.2⟩⟩ rfl (by rw [List.length_map]; exact has) hR.1.1 rfl (lv_room (by rw [wds_cat]; exact hw)) hd hroom) key
  · obtain ⟨a, t, hp, rfl, hw, hc⟩ := h
    obtain ⟨-, ot⟩ := ok_1 hR.2.2.1
    obtain ⟨pos, hpp⟩ := tb_pool hp
    have hx := (hC _ _ _ _ hc).2 lsr H locs cells slots (hR.sk ot)
    exact W.objInit (rest := t.map (mrv base b)) F.1 F.2.1 F.2.2.2.1 (F.2.2.2.2.1 _ (tb_in (i := pos) hpp)) (F.2.2.2.2.1 _ tb_obi) (F.2.2.2.2.1 _ tb_obc) rfl (by rw [F.2.2.1]; exact hR.1.1) rfl hd (by omega) (by
      have h9 := wds_cat (base := base) (b := b) t
      have h8 : 2 * (F0 m pc lsr ((vr a :: t).map (mrv base b))).monitorRoom + ((t.map (mrv base b)).map fun v => v.category).sum ≤ 8 := lv_room (by rw [h9]; exact hw)
      omega) hx
end SIMF
