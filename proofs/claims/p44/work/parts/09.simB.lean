/-! the heap of the small machine in the machine -/
def mfv (base b : Nat) (R : Nat → Nat → Option Nat) (I : Nat → Nat → Int) (c a j : Nat) : Value := if ft c j = 3 then va_rf ((R a j).map (mad base b)) else .int (Int32.ofInt (I a j))
def mcell (D : va_G) (cI cZ cW : ClassId) (base b : Nat) (K : Nat → Nat × Nat) (R : Nat → Nat → Option Nat) (I : Nat → Nat → Int) (a : Nat) (H : Heap) : Prop :=
  (∀ c, K a = (c, 0) → c < 12 → ∃ r : vw_C, cks[c]? = some r ∧ t_OB (base + (a - 1)) (D.1 c) r.2.2 (D.2 c) H (mfv base b R I c a)) ∧
  (∀ n, K a = (20, n) → H[base + (a - 1)]? = some (arrV cI n (fun j => .int (Int32.ofInt (I a j))))) ∧
  (∀ n, K a = (21, n) → H[base + (a - 1)]? = some (arrV cZ n (fun j => .int (Int32.ofInt (I a j))))) ∧
  (∀ n, K a = (22, n) → H[base + (a - 1)]? = some (arrV cW n (fun j => va_rf ((R a j).map (mad base b)))))
theorem mcell.kept {D : va_G} {cI cZ cW : ClassId} {base b a : Nat} {K K2 : Nat → Nat × Nat} {R R2 : Nat → Nat → Option Nat} {I I2 : Nat → Nat → Int} {H H2 : Heap} (h : mcell D cI cZ cW base b K R I a H)
    (hK : K2 a = K a) (hR : R2 a = R a) (hI : I2 a = I a) (hH : H2[base + (a - 1)]? = H[base + (a - 1)]?) : mcell D cI cZ cW base b K2 R2 I2 a H2 := by
  obtain ⟨h1, h2, h3, h4⟩ := h
  refine ⟨fun c hc hl => ?_, fun n hn => ?_, fun n hn => ?_, fun n hn => ?_⟩
  · obtain ⟨r, q1, q2⟩ := h1 c (hK ▸ hc) hl
    exact ⟨r, q1, (q2.kept hH).to (fun j _ => by unfold mfv; rw [hR, hI])⟩
  · rw [hH, h2 n (hK ▸ hn), hI]
  · rw [hH, h3 n (hK ▸ hn), hI]
  · rw [hH, h4 n (hK ▸ hn), hR]
/-- what holds of the small machine's heap by itself -/
def mok (L : Nat) (xs : Nat → Int32) (s : Nat) (K : Nat → Nat × Nat) (I : Nat → Nat → Int) : Prop := 1 ≤ s ∧ K 0 = (23, L) ∧ (∀ a, s ≤ a → K a = (99, 0)) ∧ (∀ a j, inI (I a j)) ∧ (∀ a n j, K a = (21, n) → I a j = 0 ∨ I a j = 1) ∧ (∀ j, j < L → I 0 j = (xs j).toInt) ∧ (∀ a, 1 ≤ a → (K a).1 ≠ 23) ∧ ∀ a, (K a).2 < 2147483648
def mHR (D : va_G) (cI cZ cW : ClassId) (base b L : Nat) (xs : Nat → Int32) (M : MM) (H : Heap) : Prop :=
  mok L xs M.1 M.2.2.1 M.2.2.2.2 ∧ base + M.1 = H.size + 1 ∧ b < base ∧ ∀ a, 1 ≤ a → a < M.1 → mcell D cI cZ cW base b M.2.2.1 M.2.2.2.1 M.2.2.2.2 a H
def mtys (cI cZ cW : ClassId) : List (ClassId × FieldType) := [(cI, .int), (cZ, .boolean), (cW, .object rk10)]
def mPic (D : va_G) (cI cZ cW : ClassId) (base b L : Nat) (xs : Nat → Int32) (M : MM) (U : State) : Prop := mHR D cI cZ cW base b L xs M U.heap ∧ va_K D cks (mtys cI cZ cW) U ∧ va_X b L xs U U.heap ∧ va_AO rk10 U
def mws (k : Nat) : List Cond := Cond.code (mname k) (mcode k) (mmaxl k) (mret k) :: gtl
def mrm (d mc ms : Nat) : Room := { frames := d, cells := mc, slots := ms, locals := 60 * d }
def mQc (D : va_G) (cI cZ cW : ClassId) (base b L : Nat) (xs : Nat → Int32) (r : Option MV) (M2 : MM) : Array Value → State → Outcome → State → Prop := fun _ _ o t => o = .returned (r.map (mrv base b)) ∧ mPic D cI cZ cW base b L xs M2 t ∧ ∀ v, r = some v → vok v
/-- the contract of a method of the small machine -/
def mMet (d k : Nat) (a : List MV) (M : MM) (r : Option MV) (M2 : MM) : Prop := ∀ (l : Launch) (D : va_G) (cI cZ cW : ClassId) (base b L : Nat) (xs : Nat → Int32), (∀ v ∈ a, vok v) →
  Met l (mname k) (mws k) (mrm d (M2.1 - M.1) (M2.2.1 - M.2.1)) (va_Pc (a.map (mrv base b)) (mPic D cI cZ cW base b L xs M)) (mQc D cI cZ cW base b L xs r M2) (M2.1 - M.1) (M2.2.1 - M.2.1) (fun q => base ≤ q)
/-- what stays through a method -/
def mFix (p : Program) (s : State) (m : MethodId) (args : Array Value) (meth : Method) (c : Code) (D : va_G) (cI cZ cW : ClassId) (base b k : Nat) : Prop :=
  p.tables.exec = Jvm.exec ∧ c.code = mcode k ∧ c.maxLocals = mmaxl k ∧ s.vm.findClass (cn (mcls k)) = some m.cls ∧ (∀ w ∈ gtl, w.before args s = true) ∧ va_K D cks (mtys cI cZ cW) s ∧ b < base ∧ ((mname k).name = "<init>" → meth.name = "<init>") ∧ va_AO rk10 s
/-- a state of the machine that is one of the small machine -/
def RS (D : va_G) (cI cZ cW : ClassId) (base b L : Nat) (xs : Nat → Int32) (s : State) (k cE sE : Nat) (Me : MM) (ls st : List MV) (M : MM) (lsr : Array Slot) (H : Heap) (locs : List Loc) (cells slots : Nat) : Prop :=
  LRel base b lsr (mmaxl k) ls ∧ (∀ v ∈ ls, vok v) ∧ (∀ v ∈ st, vok v) ∧ mHR D cI cZ cW base b L xs M H ∧ va_X b L xs s H ∧ (∀ q ∈ locs, base ≤ q.base) ∧ cells + (Me.1 - M.1) = cE ∧ slots + (Me.2.1 - M.2.1) = sE
def SimC (p : Program) (l : Launch) (e : Env) (RR : Room) (s : State) (m : MethodId) (args : Array Value) (below : List Frame) (meth : Method) (c : Code) (Q : State → Prop) (D : va_G) (cI cZ cW : ClassId) (base b L : Nat) (xs : Nat → Int32) (k cE sE : Nat) (Me : MM) (C : Nx) : Prop :=
  ∀ pc ls st M, C pc ls st M → (M.1 ≤ Me.1 ∧ M.2.1 ≤ Me.2.1) ∧ ∀ lsr H locs cells slots, RS D cI cZ cW base b L xs s k cE sE Me ls st M lsr H locs cells slots → W p l e RR s m args below meth c H locs cells slots Q (F0 m pc lsr (st.map (mrv base b)))
section SIM
variable {p : Program} {l : Launch} {e : Env} {RR : Room} {s : State} {m : MethodId} {args : Array Value} {below : List Frame} {meth : Method} {c : Code} {Q : State → Prop} {D : va_G} {cI cZ cW : ClassId} {base b L : Nat} {xs : Nat → Int32} {k cE sE : Nat} {Me : MM} {C : Nx}
variable {ls st : List MV} {M : MM} {lsr : Array Slot} {H : Heap} {locs : List Loc} {cells slots : Nat}
theorem RS.lo (h : RS D cI cZ cW base b L xs s k cE sE Me ls st M lsr H locs cells slots) {ls2 st2 : List MV} {lsr2 : Array Slot} (h1 : LRel base b lsr2 (mmaxl k) ls2) (h2 : ∀ v ∈ ls2, vok v) (h3 : ∀ v ∈ st2, vok v) : RS D cI cZ cW base b L xs s k cE sE Me ls2 st2 M lsr2 H locs cells slots := ⟨h1, h2, h3, h.2.2.2⟩
theorem RS.sk (h : RS D cI cZ cW base b L xs s k cE sE Me ls st M lsr H locs cells slots) {st2 : List MV} (h3 : ∀ v ∈ st2, vok v) : RS D cI cZ cW base b L xs s k cE sE Me ls st2 M lsr H locs cells slots := ⟨h.1, h.2.1, h3, h.2.2.2⟩
theorem RS.get (h : RS D cI cZ cW base b L xs s k cE sE Me ls st M lsr H locs cells slots) {i : Nat} {v : MV} (hi : ls[i]? = some v) (hv : v ≠ vn) : lsr[i]? = some (.val (mrv base b v)) := h.1.2.2.2 i v hi hv
theorem RS.lv (h : RS D cI cZ cW base b L xs s k cE sE Me ls st M lsr H locs cells slots) {i : Nat} {v : MV} (hi : ls[i]? = some v) : vok v := h.2.1 v (List.mem_of_getElem? hi)
theorem ok_set {ls : List MV} {i : Nat} {v : MV} (h : ∀ v ∈ ls, vok v) (hv : vok v) : ∀ u ∈ ls.set i v, vok u := fun u hu => by
  rcases List.mem_or_eq_of_mem_set hu with q | q
  · exact h u q
  · rw [q]; exact hv
theorem ok_kl {ls : List MV} {i : Nat} (h : ∀ v ∈ ls, vok v) : ∀ u ∈ kl ls i, vok u := by
  unfold kl
  split
  · exact ok_set h trivial
  · exact h
theorem ok_st1 {ls : List MV} {i : Nat} {v : MV} (h : ∀ v ∈ ls, vok v) (hv : vok v) : ∀ u ∈ st1 ls i v, vok u := ok_set (ok_kl h) hv
theorem ok_st2 {ls : List MV} {i : Nat} {v : MV} (h : ∀ v ∈ ls, vok v) (hv : vok v) : ∀ u ∈ st2 ls i v, vok u := ok_set (ok_set (ok_kl h) hv) trivial
theorem ok_2 {x y : MV} {t : List MV} (h : ∀ v ∈ y :: x :: t, vok v) : vok y ∧ vok x ∧ ∀ v ∈ t, vok v := ⟨h _ List.mem_cons_self, h _ (List.mem_cons_of_mem _ List.mem_cons_self), fun v hv => h v (List.mem_cons_of_mem _ (List.mem_cons_of_mem _ hv))⟩
theorem ok_1 {y : MV} {t : List MV} (h : ∀ v ∈ y :: t, vok v) : vok y ∧ ∀ v ∈ t, vok v := ⟨h _ List.mem_cons_self, fun v hv => h v (List.mem_cons_of_mem _ hv)⟩
theorem ok_c {y : MV} {t : List MV} (hy : vok y) (h : ∀ v ∈ t, vok v) : ∀ v ∈ y :: t, vok v := List.forall_mem_cons.mpr ⟨hy, h⟩
end SIM
