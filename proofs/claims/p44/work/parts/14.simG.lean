/-! the small machine's runs are the machine's -/
section SIMG
variable {p : Program} {l : Launch} {e : Env} {RR : Room} {s : State} {m : MethodId} {args : Array Value} {below : List Frame} {meth : Method} {c : Code} {Q : State → Prop} {D : va_G} {cI cZ cW : ClassId} {base b L : Nat} {xs : Nat → Int32} {k cE sE d : Nat} {Me : MM} {C : Nx} {call : Cl}
variable {ls st : List MV} {M : MM} {lsr : Array Slot} {H : Heap} {locs : List Loc} {cells slots pc len : Nat}
set_option maxHeartbeats 2000000 in
theorem sim_step {i : Instr} (hE : cE ≤ RR.cells ∧ sE ≤ RR.slots) (hRm : d + 1 ≤ RR.frames ∧ 60 * (d + 1) ≤ RR.locals) (IH : ∀ y a M r M1, call y a M r M1 → y < nMet → (M.1 ≤ M1.1 ∧ M.2.1 ≤ M1.2.1) ∧ mMet d y a M r M1) (F : mFix p s m args meth c D cI cZ cW base b k) (hC : SimC p l e RR s m args below meth c Q D cI cZ cW base b L xs k cE sE Me C) (hR : RS D cI cZ cW base b L xs s k cE sE Me ls st M lsr H locs cells slots) (hd : decode (mcode k) pc = .ok (i, len)) (h : stepI call k i len pc ls st M C) : W p l e RR s m args below meth c H locs cells slots Q (F0 m pc lsr (st.map (mrv base b))) := by
  cases i
  case iconst n => exact z_iconst F hC hR hd h
  case bipush n => exact z_bipush F hC hR hd h
  case sipush n => exact z_sipush F hC hR hd h
  case lconst n => exact z_lconst F hC hR hd h
  case ldc n => exact z_ldc F hC hR hd h
  case ldc_w n => exact z_ldc_w F hC hR hd h
  case ldc2_w n => exact z_ldc2_w F hC hR hd h
  case iload n => exact z_iload F hC hR hd h
  case iload_n n => exact z_iload_n F hC hR hd h
  case lload n => exact z_lload F hC hR hd h
  case lload_n n => exact z_lload_n F hC hR hd h
  case aload n => exact z_aload F hC hR hd h
  case aload_n n => exact z_aload_n F hC hR hd h
  case istore n => exact z_istore F hC hR hd h
  case istore_n n => exact z_istore_n F hC hR hd h
  case lstore n => exact z_lstore F hC hR hd h
  case lstore_n n => exact z_lstore_n F hC hR hd h
  case astore n => exact z_astore F hC hR hd h
  case astore_n n => exact z_astore_n F hC hR hd h
  case iinc n x => exact z_iinc F hC hR hd h
  case iadd => exact z_iadd F hC hR hd h
  case isub => exact z_isub F hC hR hd h
  case imul => exact z_imul F hC hR hd h
  case idiv => exact z_idiv F hC hR hd h
  case irem => exact z_irem F hC hR hd h
  case iand => exact z_iand F hC hR hd h
  case ixor => exact z_ixor F hC hR hd h
  case ishl => exact z_ishl F hC hR hd h
  case ishr => exact z_ishr F hC hR hd h
  case iushr => exact z_iushr F hC hR hd h
  case ineg => exact z_ineg F hC hR hd h
  case ladd => exact z_ladd F hC hR hd h
  case lsub => exact z_lsub F hC hR hd h
  case lmul => exact z_lmul F hC hR hd h
  case ldiv => exact z_ldiv F hC hR hd h
  case lrem => exact z_lrem F hC hR hd h
  case land => exact z_land F hC hR hd h
  case lor => exact z_lor F hC hR hd h
  case lshl => exact z_lshl F hC hR hd h
  case lneg => exact z_lneg F hC hR hd h
  case lcmp => exact z_lcmp F hC hR hd h
  case i2l => exact z_i2l F hC hR hd h
  case l2i => exact z_l2i F hC hR hd h
  case dup => exact z_dup F hC hR hd h
  case dup2 => exact z_dup2 F hC hR hd h
  case pop => exact z_pop F hC hR hd h
  case pop2 => exact z_pop2 F hC hR hd h
  case if_icmp cc off => exact z_if_icmp F hC hR hd h
  case ifCond cc off => exact z_ifCond F hC hR hd h
  case goto off => exact z_goto F hC hR hd h
  case ifnull off => exact z_ifnull F hC hR hd h
  case ifnonnull off => exact z_ifnonnull F hC hR hd h
  case tableswitch a1 a2 a3 a4 => exact z_tableswitch F hC hR hd h
  case getfield idx => exact z_getfield F hC hR hd h
  case putfield idx => exact z_putfield F hC hR hd h
  case iaload => exact z_iaload F hC hR hd h
  case baload => exact z_baload F hC hR hd h
  case aaload => exact z_aaload F hC hR hd h
  case iastore => exact z_iastore F hC hR hd h
  case bastore => exact z_bastore F hC hR hd h
  case aastore => exact z_aastore F hC hR hd h
  case arraylength => exact z_arraylength F hC hR hd h
  case newarray ty => exact z_newarray hE F hC hR hd h
  case anewarray idx => exact z_anewarray hE F hC hR hd h
  case new idx => exact z_newc hE F hC hR hd h
  case invokevirtual idx => exact z_invokevirtual hE hRm IH F hC hR hd h
  case invokestatic idx => exact z_invokestatic hE hRm IH F hC hR hd h
  case invokespecial idx => exact z_invokespecial hE hRm IH F hC hR hd h
  all_goals exact False.elim h
theorem sim_ex (hE : cE ≤ RR.cells ∧ sE ≤ RR.slots) (hRm : d + 1 ≤ RR.frames ∧ 60 * (d + 1) ≤ RR.locals) (IH : ∀ y a M r M1, call y a M r M1 → y < nMet → (M.1 ≤ M1.1 ∧ M.2.1 ≤ M1.2.1) ∧ mMet d y a M r M1) (F : mFix p s m args meth c D cI cZ cW base b k) {r : Option MV}
    (hend : ∀ (pc : Nat) (ls st : List MV) (i : Instr) (len : Nat) (lsr : Array Slot) (H : Heap) (locs : List Loc) (cells slots : Nat), decode (mcode k) pc = .ok (i, len) → retI k i len st r → RS D cI cZ cW base b L xs s k cE sE Me ls st Me lsr H locs cells slots → W p l e RR s m args below meth c H locs cells slots Q (F0 m pc lsr (st.map (mrv base b)))) :
    ∀ (n pc : Nat) (ls st : List MV) (M : MM), Ex call k n pc ls st M r Me → (M.1 ≤ Me.1 ∧ M.2.1 ≤ Me.2.1) ∧ ∀ lsr H locs cells slots, RS D cI cZ cW base b L xs s k cE sE Me ls st M lsr H locs cells slots → W p l e RR s m args below meth c H locs cells slots Q (F0 m pc lsr (st.map (mrv base b))) := by
  intro n
  induction n with
  | zero => intro pc ls st M h; exact False.elim h
  | succ n ih =>
    intro pc ls st M h
    refine ⟨h.mono, fun lsr H locs cells slots hR => ?_⟩
    obtain ⟨-, i, len, hd, h | h⟩ := h
    · obtain ⟨h1, rfl⟩ := h
      exact hend pc ls st i len lsr H locs cells slots hd h1 hR
    · exact sim_step hE hRm IH F (fun pc2 ls2 st2 M2 h2 => ih pc2 ls2 st2 M2 h2) hR hd h
end SIMG
theorem flt_sl {base b : Nat} : ∀ a : List MV, (lg_sl (a.map (mrv base b))).length = (flt a).length
  | [] => rfl
  | v :: t => by
    have h := flt_sl (base := base) (b := b) t
    unfold lg_sl flt at *
    rw [List.map_cons, List.flatMap_cons, List.flatMap_cons, List.length_append, List.length_append, h]
    congr 1
    match v with
    | Sum.inl x => rfl
    | Sum.inr (Sum.inl x) => rfl
    | Sum.inr (Sum.inr none) => rfl
    | Sum.inr (Sum.inr (some x)) => rfl
theorem flt_in {base b : Nat} : ∀ (a : List MV) (o i : Nat) (v : MV), (flt a)[i]? = some v → v ≠ vn → (o + i, mrv base b v) ∈ lv_args o (a.map (mrv base b))
  | [], o, i, v, h, _ => by unfold flt at h; cases h
  | u :: t, o, i, v, h, hv => by
    have key : ∀ w : Nat, (∀ j, (flt t)[j]? = some v → (o + w + j, mrv base b v) ∈ lv_args (o + w) (t.map (mrv base b))) := fun w j hj => flt_in t (o + w) j v hj hv
    match u, h with
    | Sum.inl x, h =>
      show _ ∈ (o, mrv base b (vi x)) :: lv_args (o + 1) (t.map (mrv base b))
      match i, h with
      | 0, h => have e : vi x = v := Option.some.inj h; rw [← e]; exact List.mem_cons_self
      | i + 1, h => exact List.mem_cons_of_mem _ (by rw [show o + (i + 1) = o + 1 + i by omega]; exact key 1 i h)
    | Sum.inr (Sum.inl x), h =>
      show _ ∈ (o, mrv base b (vl x)) :: lv_args (o + 2) (t.map (mrv base b))
      match i, h with
      | 0, h => have e : vl x = v := Option.some.inj h; rw [← e]; exact List.mem_cons_self
      | 1, h => have e : vn = v := Option.some.inj h; exact absurd e.symm hv
      | i + 2, h => exact List.mem_cons_of_mem _ (by rw [show o + (i + 2) = o + 2 + i by omega]; exact key 2 i h)
    | Sum.inr (Sum.inr none), h =>
      show _ ∈ (o, mrv base b vn) :: lv_args (o + 1) (t.map (mrv base b))
      match i, h with
      | 0, h => have e : vn = v := Option.some.inj h; exact absurd e.symm hv
      | i + 1, h => exact List.mem_cons_of_mem _ (by rw [show o + (i + 1) = o + 1 + i by omega]; exact key 1 i h)
    | Sum.inr (Sum.inr (some x)), h =>
      show _ ∈ (o, mrv base b (vr x)) :: lv_args (o + 1) (t.map (mrv base b))
      match i, h with
      | 0, h => have e : vr x = v := Option.some.inj h; rw [← e]; exact List.mem_cons_self
      | i + 1, h => exact List.mem_cons_of_mem _ (by rw [show o + (i + 1) = o + 1 + i by omega]; exact key 1 i h)
theorem ent_rel {base b : Nat} {k : Nat} {a : List MV} (h : (flt a).length ≤ mmaxl k) {lsr : Array Slot} (hl : lv_has lsr (mmaxl k) (lv_args 0 (a.map (mrv base b)))) : LRel base b lsr (mmaxl k) (ent k a) := by
  refine ⟨hl.1, ?_, hl.2.1, fun i v hi hv => ?_⟩
  · unfold ent; rw [List.length_append, List.length_replicate]; omega
  · unfold ent at hi
    rcases Nat.lt_or_ge i (flt a).length with q | q
    · rw [List.getElem?_append_left q] at hi
      have := flt_in (base := base) (b := b) a 0 i v hi hv
      rw [Nat.zero_add] at this
      exact hl.2.2 _ this
    · rw [List.getElem?_append_right q] at hi
      have := List.mem_of_getElem? hi
      exact absurd (List.eq_of_mem_replicate this) hv
theorem ok_flt : ∀ a : List MV, (∀ v ∈ a, vok v) → ∀ v ∈ flt a, vok v
  | [], _, v, h => by unfold flt at h; cases h
  | u :: t, ha, v, h => by
    have ht := ok_flt t (fun v hv => ha v (List.mem_cons_of_mem _ hv))
    have hu := ha u List.mem_cons_self
    unfold flt at h
    rw [List.flatMap_cons] at h
    rcases List.mem_append.mp h with q | q
    · match u, hu, q with
      | Sum.inl x, hu, q => rw [List.mem_singleton.mp q]; exact hu
      | Sum.inr (Sum.inl x), hu, q =>
        rcases List.mem_cons.mp q with q | q
        · rw [q]; exact hu
        · rw [List.mem_singleton.mp q]; exact trivial
      | Sum.inr (Sum.inr r), hu, q => rw [List.mem_singleton.mp q]; exact trivial
    · exact ht v q
theorem ok_ent {k : Nat} {a : List MV} (ha : ∀ v ∈ a, vok v) : ∀ v ∈ ent k a, vok v := fun v hv => by
  unfold ent at hv
  rcases List.mem_append.mp hv with q | q
  · exact ok_flt a ha v q
  · rw [List.eq_of_mem_replicate q]; exact trivial
/-- THE SMALL MACHINE'S CONTRACTS ARE THE MACHINE'S -/
theorem sim_met : ∀ (d k : Nat) (a : List MV) (M : MM) (r : Option MV) (M2 : MM), Runs d k a M r M2 → k < nMet → (M.1 ≤ M2.1 ∧ M.2.1 ≤ M2.2.1) ∧ mMet d k a M r M2 := by
  intro d
  induction d with
  | zero => intro k a M r M2 h; exact False.elim h
  | succ d ih =>
    intro k a M r M2 h hk
    refine ⟨h.mono, ?_⟩
    obtain ⟨hlen, n, hex⟩ := h
    intro l D cI cZ cW base b L xs hoa
    obtain ⟨t1, t2, t3, t4, t5, t6, t7, t8, t9, t10, t11⟩ := tb_met hk
    refine Met.ofW (cc := mcode k) (maxL := mmaxl k) (ret := mret k) t2 rfl ?_
    intro p e s m args below meth c s₁ B hml hv
    obtain ⟨rfl, hHR, hK, hX, hAO⟩ := hv
    have hts0 := atoms_spec (ws := mws k) B.pre
    have hown : s.vm.findClass (mname k).cls = some m.cls := findClass_of_methodNamed B.named
    have hlocks := B.notSynchronized
    have F : mFix p s m (a.map (mrv base b)).toArray meth c D cI cZ cW base b k := ⟨B.exec, B.bytes, hml, by rw [← t1]; exact hown, fun w hw => hts0 w (List.mem_cons_of_mem _ hw), hK, hHR.2.2.1, fun h9 => (name_of_methodNamed B.named B.method).1.trans h9, hAO⟩
    have hx := B.exec
    have hb := B.bytes
    have hr := B.returns
    have hle : (lg_sl (a.map (mrv base b))).length ≤ mmaxl k := by rw [flt_sl]; exact hlen
    have hl := lv_entry (a.map (mrv base b)) (n := mmaxl k) hle
    rw [lg_entry_eq]
    refine (sim_ex (Me := M2) (cE := M2.1 - M.1) (sE := M2.2.1 - M.2.1) (L := L) (xs := xs) (RR := (headSpec (mws k) (mrm (d + 1) (M2.1 - M.1) (M2.2.1 - M.2.1))).room) ⟨Nat.le_refl _, Nat.le_refl _⟩ ⟨Nat.le_refl _, Nat.le_refl _⟩ (fun y a M r M1 h9 hy => ih y a M r M1 h9 hy) F (r := r) ?_ n 0 (ent k a) [] M hex).2 _ s.heap [] 0 0 ⟨ent_rel hlen hl, ok_ent hoa, fun v hv => absurd hv List.not_mem_nil, hHR, hX, fun q hq => absurd hq List.not_mem_nil, Nat.zero_add _, Nat.zero_add _⟩
    intro pc ls st i len lsr H locs cells slots hd hret hR
    obtain ⟨-, -, hos, hH2, hX2, hlo, hce, hse⟩ := hR
    rw [Nat.sub_self, Nat.add_zero] at hce hse
    subst hce
    subst hse
    have hpost : ∀ t : State, t.heap = H → s.WarmedH t.vm → mPic D cI cZ cW base b L xs M2 t := fun t ht hW => ⟨by rw [ht]; exact hH2, va_K.moved hW.alike hK, by rw [ht]; exact va_X.moved hW.alike hX2, va_AO.moved hW.alike hAO⟩
    unfold retI at hret
    split at hret
    · obtain ⟨rfl, x, rfl, rfl, h9⟩ := hret
      have hox : inI x := hos _ List.mem_cons_self
      rcases h9 with h9 | ⟨h9, h10⟩
      · exact W.iret (v := Int32.ofInt x) hx hb (hr.trans h9) (fun t ht hW => ⟨rfl, hpost t ht hW, fun v hv => by cases hv; exact hox⟩) hlo hd
      · exact W.zret (v := Int32.ofInt x) hx hb (hr.trans h9) (by rcases h10 with rfl | rfl <;> rfl) (fun t ht hW => ⟨rfl, hpost t ht hW, fun v hv => by cases hv; exact hox⟩) hlo hd
    · obtain ⟨rfl, x, rfl, rfl, h9⟩ := hret
      have hox : inL x := hos _ List.mem_cons_self
      exact W.lret (v := Int64.ofInt x) hx hb (hr.trans h9) (fun t ht hW => ⟨rfl, hpost t ht hW, fun v hv => by cases hv; exact hox⟩) hlo hd
    · obtain ⟨rfl, rfl, rfl, h9⟩ := hret
      exact W.vret hx hb (hr.trans h9) (fun t ht hW => ⟨rfl, hpost t ht hW, fun v hv => by cases hv⟩) hlo hd
    · exact False.elim hret
