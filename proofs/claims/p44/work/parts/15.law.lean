/-! THE CLAIM OUT OF ONE WALK OF THE LAW'S BODY. Your part is whole_start (and what it stands on); all else here is the same for every law, but numbers. -/
def R_law : String := "TornFringesLaw"
def lw_P (b : Addr) (xs : List Int32) (args : Array Value) (s : State) : Prop := args = #[.ref b] ∧ s.IntsAt b xs ∧ xs.length ≤ 260 ∧ (Jvm.Cond.and given_1 narrow_1).before args s = true
def lw_Q (_ : Array Value) (s : State) (o : Outcome) (t : State) : Prop := o = .returned (some (.int 1)) ∧ Framed s o t [] 600000 7302250
def lw_Z (below : List Frame) (a : Array Value) (s : State) : State → Prop := fun t => ∃ o, t.status = .running ∧ Ended t below o ∧ lw_Q a s o t
/-- the law's own end, with 1 on the stack, nothing written that was there before, its room as the claim has it -/
theorem lw_ret {p : Program} {l : Launch} {e : Env} {s : State} {m : MethodId} {below : List Frame} {meth : Method} {c : Code} {b : Nat} (hx : p.tables.exec = Jvm.exec) (hb : c.code = code) (hr : meth.sig.returnType = ret) (hlocks : meth.locks = false) {pc : Nat} {H : Heap} {ls : Array Slot} (hdg : decode code pc = .ok (.ireturn, 1)) : W p l e room_1 s m #[Value.ref b] below meth c H [] 600000 7302250 (lw_Z below #[Value.ref b] s) (F0 m pc ls [.int 1]) := by
  intro T hT X
  obtain ⟨fs, hret, hrun, hended, hW, hframe⟩ := X.leave (v := some (.int 1)) (hlocks := hlocks) (fun h => by rw [hr] at h; cases h)
  have hmeth' : T.vm.method? m = some meth := X.method'
  refine ⟨T.setFrames fs, ?_, .returned (some (.int 1)), hrun, hended, rfl, ⟨_, rfl⟩, hW, hframe⟩
  jvm_step X.here [X.here.top, hx, hb, hdg, hmeth', hr, ret, narrow_b1]
  (try refine ⟨rfl, ?_⟩); (try refine ⟨rfl, ?_⟩)
  first | (intro acts; rw [hret _ acts rfl rfl rfl]) | rw [hret _ _ rfl rfl rfl]
  exact Steps.refl _
/-- what holds at the law's entry: the machine, the code, the tables' words (any of lw_tbl by 'hts w (by decide +kernel)'), the script of L ints xs at the cell b, what the Statement gives of the start (any of its parts by flat_of_before) -/
def lw_At (p : Program) (s : State) (m : MethodId) (meth : Method) (c : Code) (b L : Nat) (xs : Nat → Int32) : Prop :=
  p.tables.exec = Jvm.exec ∧ c.code = code ∧ meth.sig.returnType = ret ∧ c.maxLocals = 15 ∧ s.vm.findClass R_law = some m.cls ∧ (∀ w ∈ lw_tbl, w.before #[Value.ref b] s = true) ∧ va_X b L xs s s.heap ∧ b < s.heap.size ∧ meth.locks = false ∧ (Jvm.Cond.and given_1 narrow_1).before #[Value.ref b] s = true
/-- the small machine at the law's entry -/
def mM0 (L : Nat) (xs : Nat → Int32) : MM := (1, 0, fun a => if a = 0 then (23, L) else (99, 0), fun _ _ => none, fun a j => if a = 0 ∧ j < L then (xs j).toInt else 0)
theorem gtl_lw {w : Cond} (h : w ∈ gtl) : w ∈ lw_tbl := (List.mem_filter.mp h).1
theorem ka_of {s : State} {args : Array Value} {ty : FieldType} (hp : (∃ C, ty = .object C) = False) (h : (Cond.arrayClass ty).before args s = true) : ∃ cA : ClassId, ArrOfT s cA ty ∧ va_RA s cA ty := by
  obtain ⟨cA, kA, comp, h1, h2, h3⟩ := Cond.arrayClass_spec h
  refine ⟨cA, fun n z => ⟨fun k h => (by cases h), kA, h2, comp, h3⟩, ?_⟩
  cases ty with
  | object C => exact absurd ⟨C, rfl⟩ (of_eq_false hp)
  | _ => exact h1
theorem kw_of {s : State} {args : Array Value} {C : String} (h : (Cond.arrayOver (.object C)).before args s = true) : ∃ cA : ClassId, ArrOfT s cA (.object C) ∧ va_RA s cA (.object C) := by
  obtain ⟨comp, cA, kA, h1, h2, h3, h4, h5⟩ := Cond.arrayOver_spec h
  exact ⟨cA, fun n z => ⟨(fun k h => by cases h), kA, h3, comp, h4⟩, kA, comp, h3, h4, h1, h5⟩
def whole_run : Prop := ∀ (L : Nat) (xs : Nat → Int32), L ≤ 260 → ∃ d, d ≤ 1300 ∧ Wm d 131 0 [vr 0, vn, vn, vn, vn, vn, vn, vn, vn, vn, vn, vn, vn, vn, vn] [] (mM0 L xs) (fun r M2 => r = some (vi 1) ∧ M2.1 ≤ 600001 ∧ M2.2.1 ≤ 7302250)
theorem whole_of (hrun : whole_run) {p : Program} {e : Env} {s : State} {m : MethodId} {below : List Frame} {meth : Method} {c : Code} (l : Launch) {b L : Nat} {xs : Nat → Int32} (hL : L ≤ 260) (C0 : lw_At p s m meth c b L xs) : W p l e room_1 s m #[Value.ref b] below meth c s.heap [] 0 0 (lw_Z below #[Value.ref b] s) (entryFrame m ([Value.ref b] : List Value).toArray 15) := by
  obtain ⟨hx, hb, hr, hml, hown, hts, hX, hbl, hlocks, hgv⟩ := C0
  obtain ⟨d, hd, n, r, M2, hex, rfl, hc, hs⟩ := hrun L xs hL
  have htg : ∀ w ∈ gtl, w.before #[Value.ref b] s = true := fun w hw => hts w (gtl_lw hw)
  have hcl : ∀ c : Nat, ∃ (cC : ClassId) (iS : Nat → Nat), ∀ q : vw_C, cks[c]? = some q → u_Kn s q.1 q.2.1 q.2.2 cC iS := by
    intro c
    cases hq : cks[c]? with
    | none => exact ⟨0, fun _ => 0, fun q h => by cases h⟩
    | some q =>
      obtain ⟨hin, -, hins, -⟩ := tb_cls hq
      obtain ⟨cC, iS, hk⟩ := u_known (C := q.1) (T := q.2.1) (N := q.2.2) htg hin (htg _ hins)
      exact ⟨cC, iS, fun q2 h2 => by cases h2; exact hk⟩
  obtain ⟨cI, hI1, hI2⟩ := ka_of (ty := .int) (by simp) (htg _ tb_ai)
  obtain ⟨cZ, hZ1, hZ2⟩ := ka_of (ty := .boolean) (by simp) (htg _ tb_az)
  obtain ⟨cW, hW1, hW2⟩ := kw_of (hts _ tb_ao)
  have hK : va_K (fun c => Classical.choose (hcl c), fun c => Classical.choose (Classical.choose_spec (hcl c))) cks (mtys cI cZ cW) s := by
    refine ⟨fun c q hq => Classical.choose_spec (Classical.choose_spec (hcl c)) q hq, fun k q hq => ?_⟩
    match k, hq with
    | 0, hq => cases hq; exact ⟨hI1, hI2⟩
    | 1, hq => cases hq; exact ⟨hZ1, hZ2⟩
    | 2, hq => cases hq; exact ⟨hW1, hW2⟩
    | k + 3, hq => cases hq
  have F : mFix p s m #[Value.ref b] meth c (fun c => Classical.choose (hcl c), fun c => Classical.choose (Classical.choose_spec (hcl c))) cI cZ cW s.heap.size b 131 := ⟨hx, hb, hml, hown, htg, hK, hbl, fun h => absurd h (by decide +kernel), va_AO.of (hts _ tb_ao)⟩
  have hm0 : (mM0 L xs).1 = 1 ∧ (mM0 L xs).2.1 = 0 := ⟨rfl, rfl⟩
  have hmono := hex.mono
  rw [hm0.1, hm0.2] at hmono
  have hHR : mHR (fun c => Classical.choose (hcl c), fun c => Classical.choose (Classical.choose_spec (hcl c))) cI cZ cW s.heap.size b L xs (mM0 L xs) s.heap := by
    refine ⟨⟨Nat.le_refl _, rfl, fun a ha => ?_, fun a j => ?_, fun a n j ha => ?_, fun j hj => ?_, fun a ha => ?_, fun a => ?_⟩, rfl, hbl, fun a h1 h2 => ?_⟩
    · show (if a = 0 then _ else _) = _
      rw [if_neg (by have : 1 ≤ a := ha; omega)]
    · show inI (if a = 0 ∧ j < L then _ else _)
      split
      · exact oi_in _
      · exact ⟨by decide, by decide⟩
    · have h9 : (if a = 0 then (23, L) else (99, 0)) = (21, n) := ha
      split at h9 <;> cases h9
    · show (if 0 = 0 ∧ j < L then _ else _) = _
      rw [if_pos ⟨rfl, hj⟩]
    · show (if a = 0 then ((23, L) : Nat × Nat) else (99, 0)).1 ≠ 23
      rw [if_neg (by omega)]
      decide
    · show (if a = 0 then ((23, L) : Nat × Nat) else (99, 0)).2 < _
      split
      · show L < _; omega
      · show 0 < _; omega
    · have : a < 1 := h2
      omega
  have hl := lv_entry ([.ref b]) (n := 15) (Nat.le_of_ble_eq_true rfl)
  rw [lg_entry_eq]
  have hl2 : LRel s.heap.size b ((lg_sl ([Value.ref b]) ++ List.replicate (15 - (lg_sl ([Value.ref b])).length) Slot.unset).toArray) (mmaxl 131) [vr 0, vn, vn, vn, vn, vn, vn, vn, vn, vn, vn, vn, vn, vn, vn] := by
    refine ⟨rfl, rfl, hl.2.1, fun i v hi hv => ?_⟩
    match i, hi with
    | 0, hi => cases hi; exact hl.2.2 (0, .ref b) List.mem_cons_self
    | 1, hi => cases hi; exact absurd rfl hv
    | 2, hi => cases hi; exact absurd rfl hv
    | 3, hi => cases hi; exact absurd rfl hv
    | 4, hi => cases hi; exact absurd rfl hv
    | 5, hi => cases hi; exact absurd rfl hv
    | 6, hi => cases hi; exact absurd rfl hv
    | 7, hi => cases hi; exact absurd rfl hv
    | 8, hi => cases hi; exact absurd rfl hv
    | 9, hi => cases hi; exact absurd rfl hv
    | 10, hi => cases hi; exact absurd rfl hv
    | 11, hi => cases hi; exact absurd rfl hv
    | 12, hi => cases hi; exact absurd rfl hv
    | 13, hi => cases hi; exact absurd rfl hv
    | 14, hi => cases hi; exact absurd rfl hv
    | i + 15, hi => cases hi
  refine (sim_ex (Me := M2) (cE := M2.1 - 1) (sE := M2.2.1) (L := L) (xs := xs) (RR := room_1) ⟨by show _ ≤ 600000; omega, by show _ ≤ 7302250; omega⟩ ⟨by show d + 1 ≤ 2048; omega, by show 60 * (d + 1) ≤ 84000; omega⟩ (fun y a M r M1 h9 hy => sim_met d y a M r M1 h9 hy) F (r := some (vi 1)) ?_ n 0 [vr 0, vn, vn, vn, vn, vn, vn, vn, vn, vn, vn, vn, vn, vn, vn] [] (mM0 L xs) hex).2 _ s.heap [] 0 0 ⟨hl2, fun v hv => ?_, fun v hv => absurd hv List.not_mem_nil, hHR, hX, fun q hq => absurd hq List.not_mem_nil, by rw [hm0.1]; omega, by rw [hm0.2]; omega⟩
  · intro pc ls st i len lsr H locs cells slots hd2 hret hR
    obtain ⟨-, -, hos, hH2, hX2, hlo, hce, hse⟩ := hR
    rw [Nat.sub_self, Nat.add_zero] at hce hse
    unfold retI at hret
    split at hret
    · obtain ⟨rfl, x, rfl, h8, h9⟩ := hret
      cases h8
      refine va_forget (fun q hq => hlo q hq) ?_
      refine W.widen (k := 600000) (n := 7302250) (by omega) (by omega) ?_
      exact lw_ret hx hb hr hlocks hd2
    · obtain ⟨rfl, x, rfl, h8, h9⟩ := hret
      cases h8
    · obtain ⟨rfl, rfl, h8, h9⟩ := hret
      cases h8
    · exact False.elim hret
  · simp only [List.mem_cons, List.not_mem_nil, or_false] at hv
    rcases hv with rfl | rfl | rfl | rfl | rfl | rfl | rfl | rfl | rfl | rfl | rfl | rfl | rfl | rfl | rfl <;> exact trivial
