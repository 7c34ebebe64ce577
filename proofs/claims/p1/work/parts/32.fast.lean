/-! the evaluator by recursors alone: the same values, less for the kernel to do -/
noncomputable def tyF (v : VV) : Nat := Sum.rec (motive := fun _ => Nat) (fun m => Sum.rec (motive := fun _ => Nat) (fun _ => 0) (fun m2 => Sum.rec (motive := fun _ => Nat) (fun _ => 1) (fun _ => 2) m2) m) (fun p => Prod.rec (motive := fun _ => Nat) (fun g _ => tyT g) p) v
theorem tyF_eq (v : VV) : tyF v = ty v := by
  rcases v with (x | x | r) | ⟨g, a, b⟩ <;> rfl
theorem cond_rec (b x y : Bool) : cond b x y = Bool.rec (motive := fun _ => Bool) y x b := by cases b <;> rfl
theorem cond_rec2 (a b x y : Bool) : cond (a && b) x y = Bool.rec (motive := fun _ => Bool) y (Bool.rec (motive := fun _ => Bool) y x b) a := by cases a <;> cases b <;> rfl
/-! small closed terms about a value, which the kernel keeps; only Bool.rec goes with what follows -/
noncomputable def okI0 (v : VV) : Bool := Sum.rec (motive := fun _ => Bool) (fun m => Sum.rec (motive := fun _ => Bool) (fun _ => true) (fun _ => false) m) (fun p => Prod.rec (motive := fun _ => Bool) (fun g _ => Nat.beq (tyT g) 0) p) v
noncomputable def okA0 (v : VV) : Bool := Sum.rec (motive := fun _ => Bool) (fun m => Sum.rec (motive := fun _ => Bool) (fun _ => false) (fun m2 => Sum.rec (motive := fun _ => Bool) (fun _ => false) (fun o => Option.rec (motive := fun _ => Bool) false (fun _ => true) o) m2) m) (fun p => Prod.rec (motive := fun _ => Bool) (fun g _ => Nat.beq (tyT g) 2) p) v
noncomputable def isRef (v : VV) : Bool := Sum.rec (motive := fun _ => Bool) (fun m => Sum.rec (motive := fun _ => Bool) (fun _ => false) (fun m2 => Sum.rec (motive := fun _ => Bool) (fun _ => false) (fun o => Option.rec (motive := fun _ => Bool) false (fun _ => true) o) m2) m) (fun _ => false) v
noncomputable def refA (v : VV) : Nat := Sum.rec (motive := fun _ => Nat) (fun m => Sum.rec (motive := fun _ => Nat) (fun _ => 0) (fun m2 => Sum.rec (motive := fun _ => Nat) (fun _ => 0) (fun o => Option.rec (motive := fun _ => Nat) 0 (fun a => a) o) m2) m) (fun _ => 0) v
noncomputable def isNat (v : VV) : Bool := Sum.rec (motive := fun _ => Bool) (fun m => Sum.rec (motive := fun _ => Bool) (fun x => Int.rec (motive := fun _ => Bool) (fun _ => true) (fun _ => false) x) (fun _ => false) m) (fun _ => false) v
noncomputable def natA (v : VV) : Nat := Sum.rec (motive := fun _ => Nat) (fun m => Sum.rec (motive := fun _ => Nat) (fun x => Int.rec (motive := fun _ => Nat) (fun n => n) (fun _ => 0) x) (fun _ => 0) m) (fun _ => 0) v
noncomputable def isInt (v : VV) : Bool := Sum.rec (motive := fun _ => Bool) (fun m => Sum.rec (motive := fun _ => Bool) (fun _ => true) (fun _ => false) m) (fun _ => false) v
noncomputable def intA (v : VV) : Int := Sum.rec (motive := fun _ => Int) (fun m => Sum.rec (motive := fun _ => Int) (fun x => x) (fun _ => Int.ofNat 0) m) (fun _ => Int.ofNat 0) v
noncomputable def loadI (v : VV) (k : VV → Bool) : Bool := Bool.rec (motive := fun _ => Bool) false (k v) (okI0 v)
theorem loadI_eq (v : VV) (k : VV → Bool) : loadI v k = fL 0 v k := by
  rcases v with (x | x | (_ | a)) | ⟨g, a, b⟩
  · rfl
  · rfl
  · rfl
  · rfl
  · exact (cond_rec (Nat.beq (tyT g) 0) (k (Sum.inr (g, a, b))) false).symm
noncomputable def loadA (v : VV) (k : VV → Bool) : Bool := Bool.rec (motive := fun _ => Bool) false (k v) (okA0 v)
theorem loadA_eq (v : VV) (k : VV → Bool) : loadA v k = fL 2 v k := by
  rcases v with (x | x | (_ | a)) | ⟨g, a, b⟩
  · rfl
  · rfl
  · rfl
  · rfl
  · exact (cond_rec (Nat.beq (tyT g) 2) (k (Sum.inr (g, a, b))) false).symm
noncomputable def x_loadIF : XF := fun go e D k cc rest ls st fs T s u C => loadI (lget e.2.2.2.1 ls) (fun v => go D k cc rest ls (v :: st) fs T s u C)
noncomputable def x_loadAF : XF := fun go e D k cc rest ls st fs T s u C => loadA (lget e.2.2.2.1 ls) (fun v => go D k cc rest ls (v :: st) fs T s u C)
theorem x_loadIF_eq : x_loadIF = x_load 0 := by
  funext go e D k cc rest ls st fs T s u C
  exact loadI_eq _ _
theorem x_loadAF_eq : x_loadAF = x_load 2 := by
  funext go e D k cc rest ls st fs T s u C
  exact loadA_eq _ _
noncomputable def x_pushF (n : Int) : XF := fun go _ D k cc rest ls st fs T s u C => go D k cc rest ls (Sum.inl (Sum.inl n) :: st) fs T s u C
theorem x_pushF_eq (n : Int) : x_pushF n = x_push (ci n) := rfl
/-! numbers -/
noncomputable def natK (z : Nat) (k : Int → Bool) (FB : Bool) : Bool := Bool.rec (motive := fun _ => Bool) FB (Nat.rec (motive := fun _ => Bool) (k (Int.ofNat 0)) (fun m _ => k (Int.ofNat (Nat.succ m))) z) (Nat.ble z 2147483647)
theorem natK_eq {z : Nat} {k : Int → Bool} {x : Int} (h : x = fI32 (Int.ofNat z)) : natK z k (fI x k) = fI x k := by
  unfold natK
  cases hb : Nat.ble z 2147483647 with
  | false => rfl
  | true =>
    have e : x = Int.ofNat z := by
      rw [h]
      show cond (Nat.ble z 2147483647) (Int.ofNat z) (wI (Int.ofNat z)) = Int.ofNat z
      rw [hb, cond_true]
    rw [e]
    rfl
noncomputable def addK (a b : Nat) (k : Int → Bool) (FB : Bool) : Bool := natK (Nat.add a b) k FB
noncomputable def subK (a b : Nat) (k : Int → Bool) (FB : Bool) : Bool := Bool.rec (motive := fun _ => Bool) FB (natK (Nat.sub a b) k FB) (Nat.ble b a)
noncomputable def mulK (a b : Nat) (k : Int → Bool) (FB : Bool) : Bool := natK (Nat.mul a b) k FB
noncomputable def divK (a b : Nat) (k : Int → Bool) (FB : Bool) : Bool := Bool.rec (motive := fun _ => Bool) (natK (Nat.div a b) k FB) FB (Nat.beq b 0)
noncomputable def remK (a b : Nat) (k : Int → Bool) (FB : Bool) : Bool := Bool.rec (motive := fun _ => Bool) (Nat.rec (motive := fun _ => Bool) (k (Int.ofNat 0)) (fun z _ => k (Int.ofNat (Nat.succ z))) (Nat.mod a b)) FB (Nat.beq b 0)
/-- on two numbers that aren't negative opK does what g does -/
def OpK (opK : Nat → Nat → (Int → Bool) → Bool → Bool) (g : VV → VV → Option VV) : Prop := ∀ (a b : Nat) (k : VV → Bool), opK a b (fun z => k (Sum.inl (Sum.inl z))) (oV (g (ci (Int.ofNat b)) (ci (Int.ofNat a))) k) = oV (g (ci (Int.ofNat b)) (ci (Int.ofNat a))) k
theorem addK_ok : OpK addK (bin2 fadd) := fun a b k => natK_eq (k := fun z => k (Sum.inl (Sum.inl z))) (x := fadd (Int.ofNat a) (Int.ofNat b)) rfl
theorem mulK_ok : OpK mulK (bin2 fmul) := fun a b k => natK_eq (k := fun z => k (Sum.inl (Sum.inl z))) (x := fmul (Int.ofNat a) (Int.ofNat b)) rfl
theorem subK_ok : OpK subK (bin2 fsub) := by
  intro m n k
  unfold subK
  cases hb : Nat.ble n m with
  | false => rfl
  | true =>
    have hl := blm hb
    refine natK_eq (k := fun z => k (Sum.inl (Sum.inl z))) (x := fsub (Int.ofNat m) (Int.ofNat n)) ?_
    have e : Int.sub (Int.ofNat m) (Int.ofNat n) = Int.ofNat (Nat.sub m n) := by
      show (m : Int) - (n : Int) = ((m - n : Nat) : Int)
      omega
    show fI32 (Int.sub (Int.ofNat m) (Int.ofNat n)) = _
    rw [e]
theorem eqB_nat (n : Nat) : eqB (Int.ofNat n) 0 = Nat.beq n 0 := rfl
theorem divK_ok : OpK divK (bin2z fdiv) := by
  intro a b k
  unfold divK
  have e : oV (bin2z fdiv (ci (Int.ofNat b)) (ci (Int.ofNat a))) k = Bool.rec (motive := fun _ => Bool) (fI (fdiv (Int.ofNat a) (Int.ofNat b)) (fun z => k (ci z))) false (Nat.beq b 0) := by
    show oV (cond (eqB (Int.ofNat b) 0) none (some (ci (fdiv (Int.ofNat a) (Int.ofNat b))))) k = _
    rw [eqB_nat]
    cases Nat.beq b 0 <;> rfl
  cases hb : Nat.beq b 0 with
  | true => rfl
  | false =>
    rw [e, hb]
    exact natK_eq (k := fun z => k (Sum.inl (Sum.inl z))) (x := fdiv (Int.ofNat a) (Int.ofNat b)) rfl
theorem remK_ok : OpK remK (bin2z Int.tmod) := by
  intro a b k
  unfold remK
  have e : oV (bin2z Int.tmod (ci (Int.ofNat b)) (ci (Int.ofNat a))) k = Bool.rec (motive := fun _ => Bool) (fI (Int.tmod (Int.ofNat a) (Int.ofNat b)) (fun z => k (ci z))) false (Nat.beq b 0) := by
    show oV (cond (eqB (Int.ofNat b) 0) none (some (ci (Int.tmod (Int.ofNat a) (Int.ofNat b))))) k = _
    rw [eqB_nat]
    cases Nat.beq b 0 <;> rfl
  cases hb : Nat.beq b 0 with
  | true => rfl
  | false =>
    rw [e, hb]
    rfl
noncomputable def binF (opK : Nat → Nat → (Int → Bool) → Bool → Bool) (FB : Bool) (y x : VV) (k : VV → Bool) : Bool := Bool.rec (motive := fun _ => Bool) FB (Bool.rec (motive := fun _ => Bool) FB (opK (natA x) (natA y) (fun z => k (Sum.inl (Sum.inl z))) FB) (isNat x)) (isNat y)
noncomputable def x_binF (opK : Nat → Nat → (Int → Bool) → Bool → Bool) (g : VV → VV → Option VV) : XF := fun go _ D k cc rest ls st fs T s u C => List.rec (motive := fun _ => Bool) false (fun y r _ => List.rec (motive := fun _ => Bool) false (fun x t _ => binF opK (oV (g y x) (fun v => go D k cc rest ls (v :: t) fs T s u C)) y x (fun v => go D k cc rest ls (v :: t) fs T s u C)) r) st
theorem binF_eq {opK : Nat → Nat → (Int → Bool) → Bool → Bool} {g : VV → VV → Option VV} (h : OpK opK g) (y x : VV) (k : VV → Bool) : binF opK (oV (g y x) k) y x k = oV (g y x) k := by
  rcases y with ((b | b) | y) | y
  · rcases x with ((a | a) | x) | x
    · exact h a b k
    · rfl
    · rfl
    · rfl
  · rfl
  · rfl
  · rfl
theorem x_binF_eq {opK : Nat → Nat → (Int → Bool) → Bool → Bool} {g : VV → VV → Option VV} (h : OpK opK g) : x_binF opK g = x_bin g := by
  funext go e D k cc rest ls st fs T s u C
  rcases st with _ | ⟨y, _ | ⟨x, t⟩⟩
  · rfl
  · rfl
  · exact binF_eq h y x (fun v => go D k cc rest ls (v :: t) fs T s u C)
theorem addF_eq : x_binF addK (bin2 fadd) = x_bin (bin2 fadd) := x_binF_eq addK_ok
theorem subF_eq : x_binF subK (bin2 fsub) = x_bin (bin2 fsub) := x_binF_eq subK_ok
theorem mulF_eq : x_binF mulK (bin2 fmul) = x_bin (bin2 fmul) := x_binF_eq mulK_ok
theorem divF_eq : x_binF divK (bin2z fdiv) = x_bin (bin2z fdiv) := x_binF_eq divK_ok
theorem remF_eq : x_binF remK (bin2z Int.tmod) = x_bin (bin2z Int.tmod) := x_binF_eq remK_ok
/-! places -/
noncomputable def dnF (n i : Nat) (t : BT OB (n + 1)) : BT OB n := Option.rec (motive := fun _ => BT OB n) (bN n) (fun p => Prod.rec (motive := fun _ => BT OB n) (fun l r => Bool.rec (motive := fun _ => BT OB n) l r (Nat.beq (Nat.mod (Nat.shiftRight i n) 2) 1)) p) (t : Option (BT OB n × BT OB n))
theorem dnF_eq (n i : Nat) (t : BT OB (n + 1)) : dnF n i t = dn n i t := rfl
noncomputable def q7F (t : HT) (i : Nat) : Option OB := Bool.rec (motive := fun _ => Option OB) none (dnF 0 i (dnF 1 i (dnF 2 i (dnF 3 i (dnF 4 i (dnF 5 i (dnF 6 i t))))))) (Nat.ble i 127)
theorem q7F_eq (t : HT) (i : Nat) : q7F t i = q7 t i := by
  unfold q7F q7
  cases Nat.ble i 127 <;> rfl
noncomputable def obS (o : Option OB) : Bool := Option.rec (motive := fun _ => Bool) false (fun _ => true) o
noncomputable def obC (o : Option OB) : Nat := Option.rec (motive := fun _ => Nat) 0 (fun p => Prod.rec (motive := fun _ => Nat) (fun c _ => c) p) o
noncomputable def obN (o : Option OB) : Nat := Option.rec (motive := fun _ => Nat) 0 (fun p => Prod.rec (motive := fun _ => Nat) (fun _ q => Prod.rec (motive := fun _ => Nat) (fun n _ => n) q) p) o
noncomputable def obF (o : Option OB) : List (Option VV) := Option.rec (motive := fun _ => List (Option VV)) [] (fun p => Prod.rec (motive := fun _ => List (Option VV)) (fun _ q => Prod.rec (motive := fun _ => List (Option VV)) (fun _ r => Prod.rec (motive := fun _ => List (Option VV)) (fun F _ => F) r) q) p) o
noncomputable def obA (o : Option OB) : Nat := Option.rec (motive := fun _ => Nat) 0 (fun p => Prod.rec (motive := fun _ => Nat) (fun _ q => Prod.rec (motive := fun _ => Nat) (fun _ r => Prod.rec (motive := fun _ => Nat) (fun _ A => A) r) q) p) o
/-- an object of the class c -/
noncomputable def obIs (o : Option OB) (c : Nat) : Bool := Bool.rec (motive := fun _ => Bool) false (Bool.rec (motive := fun _ => Bool) false (Nat.beq (obN o) 0) (Nat.beq (obC o) c)) (obS o)
noncomputable def atK (T : HT) (a : Nat) (k : Nat → Nat → List (Option VV) → Nat → Bool) : Bool := Bool.rec (motive := fun _ => Bool) false (k (obC (q7F T a)) (obN (q7F T a)) (obF (q7F T a)) (obA (q7F T a))) (obS (q7F T a))
theorem atK_none {T : HT} {a : Nat} {k : Nat → Nat → List (Option VV) → Nat → Bool} (h : q7 T a = none) : atK T a k = false := by
  unfold atK
  rw [q7F_eq, h]
  first | done | rfl
theorem atK_some {T : HT} {a kc kn A : Nat} {F : List (Option VV)} {k : Nat → Nat → List (Option VV) → Nat → Bool} (h : q7 T a = some (kc, kn, F, A)) : atK T a k = k kc kn F A := by
  unfold atK
  rw [q7F_eq, h]
  first | done | rfl
noncomputable def refK (v : VV) (k : Nat → Bool) : Bool := Bool.rec (motive := fun _ => Bool) false (k (refA v)) (isRef v)
noncomputable def fldOK (g : Nat) (w : VV) : Bool := Bool.rec (motive := fun _ => Bool) (Nat.beq (tyF w) 0) (Nat.beq (tyF w) 2) (Nat.beq g 3)
noncomputable def fldK (g : Nat) (o : Option VV) (k : VV → Bool) : Bool := Option.rec (motive := fun _ => Bool) (Bool.rec (motive := fun _ => Bool) (k (Sum.inl (Sum.inl (Int.ofNat 0)))) (k (Sum.inl (Sum.inr (Sum.inr none)))) (Nat.beq g 3)) (fun w => Bool.rec (motive := fun _ => Bool) false (k w) (fldOK g w)) o
noncomputable def x_getF : XF := fun go e D k cc rest ls st fs T s u C => List.rec (motive := fun _ => Bool) false (fun v t _ => Bool.rec (motive := fun _ => Bool) false (Bool.rec (motive := fun _ => Bool) false (fldK e.2.2.2.1 (fget e.2.2.2.2.2 (obF (q7F T (refA v)))) (fun w => go D k cc rest ls (w :: t) fs T s u C)) (obIs (q7F T (refA v)) e.2.2.2.2.1)) (isRef v)) st
theorem x_getF_eq : x_getF = x_get := by
  funext go e D k cc rest ls st fs T s u C
  rcases st with _ | ⟨((x | x | (_ | a)) | p), t⟩
  · rfl
  · rfl
  · rfl
  · rfl
  · show Bool.rec (motive := fun _ => Bool) false (fldK e.2.2.2.1 (fget e.2.2.2.2.2 (obF (q7F T a))) (fun w => go D k cc rest ls (w :: t) fs T s u C)) (obIs (q7F T a) e.2.2.2.2.1) = (match q7 T a with
      | some (kc, kn, F, _) => cond (Nat.beq kc e.2.2.2.2.1 && Nat.beq kn 0) (match fget e.2.2.2.2.2 F with
        | some w => cond (Nat.beq e.2.2.2.1 3) (cond (Nat.beq (ty w) 2) (go D k cc rest ls (w :: t) fs T s u C) false) (cond (Nat.beq (ty w) 0) (go D k cc rest ls (w :: t) fs T s u C) false)
        | none => cond (Nat.beq e.2.2.2.1 3) (go D k cc rest ls (cN :: t) fs T s u C) (go D k cc rest ls (ci 0 :: t) fs T s u C)) false
      | none => false)
    rw [q7F_eq]
    cases hq : q7 T a with
    | none => rfl
    | some o =>
      obtain ⟨kc, kn, F, A⟩ := o
      show Bool.rec (motive := fun _ => Bool) false (fldK e.2.2.2.1 (fget e.2.2.2.2.2 F) (fun w => go D k cc rest ls (w :: t) fs T s u C)) (Bool.rec (motive := fun _ => Bool) false (Nat.beq kn 0) (Nat.beq kc e.2.2.2.2.1)) = cond (Nat.beq kc e.2.2.2.2.1 && Nat.beq kn 0) _ false
      have e2 : ∀ (b1 b2 X Y : Bool), X = Y → Bool.rec (motive := fun _ => Bool) false X (Bool.rec (motive := fun _ => Bool) false b2 b1) = cond (b1 && b2) Y false := by
        intro b1 b2 X Y h
        cases b1 <;> cases b2 <;> first | rfl | exact h
      refine e2 _ _ _ _ ?_
      cases fget e.2.2.2.2.2 F with
      | none =>
        show Bool.rec (motive := fun _ => Bool) _ _ (Nat.beq e.2.2.2.1 3) = cond (Nat.beq e.2.2.2.1 3) _ _
        rw [cond_rec]
        rfl
      | some w =>
        show Bool.rec (motive := fun _ => Bool) false _ (Bool.rec (motive := fun _ => Bool) (Nat.beq (tyF w) 0) (Nat.beq (tyF w) 2) (Nat.beq e.2.2.2.1 3)) = cond (Nat.beq e.2.2.2.1 3) (cond (Nat.beq (ty w) 2) _ _) (cond (Nat.beq (ty w) 0) _ _)
        rw [tyF_eq]
        cases Nat.beq e.2.2.2.1 3 <;> cases Nat.beq (ty w) 2 <;> cases Nat.beq (ty w) 0 <;> rfl
  · rfl
noncomputable def decK (C : CT) (c : Nat) (k : VV → Bool) : Bool := Bool.rec (motive := fun _ => Bool) (nrmK C (dec c) k) (k (Sum.inl (Sum.inl (Int.ofNat c)))) (Nat.ble c 2147483647)
theorem decK_eq (C : CT) (c : Nat) (k : VV → Bool) : decK C c k = nrmK C (dec c) k := by
  unfold decK
  cases h : Nat.ble c 2147483647 with
  | false => rfl
  | true =>
    have e : dec c = ci (Int.ofNat c) := by
      unfold dec
      rw [h, cond_true]
    rw [e]
    rfl
noncomputable def natV (v : VV) (k : Nat → Bool) : Bool := Bool.rec (motive := fun _ => Bool) false (k (natA v)) (isNat v)
noncomputable def x_aldF (ok : Nat → Bool) : XF := fun go _ D k cc rest ls st fs T s u C => List.rec (motive := fun _ => Bool) false (fun v r _ => List.rec (motive := fun _ => Bool) false (fun w t _ => natV v (fun n => refK w (fun a => atK T a (fun kc kn F A => Bool.rec (motive := fun _ => Bool) false (Bool.rec (motive := fun _ => Bool) false (List.rec (motive := fun _ => Bool) (Nat.rec (motive := fun _ => Bool) (decK C 0 (fun w => go D k cc rest ls (w :: t) fs T s u C)) (fun c _ => decK C (Nat.succ c) (fun w => go D k cc rest ls (w :: t) fs T s u C)) (pget A n)) (fun _ _ _ => go D k cc rest ls (aI :: t) fs T s u C) F) (Nat.ble (Nat.succ n) kn)) (ok kc))))) r) st
theorem x_aldF_eq (ok ok2 : Nat → Bool) (ho : ∀ n, ok2 n = ok n) : x_aldF ok2 = x_ald ok := by
  funext go e D k cc rest ls st fs T s u C
  rcases st with _ | ⟨v, _ | ⟨w, t⟩⟩
  · rfl
  · rcases v with ((n | n) | x | (_ | a)) | p <;> rfl
  · rcases v with ((n | n) | x | (_ | a)) | p
    · rcases w with (y | y | (_ | a)) | p
      · rfl
      · rfl
      · rfl
      · show atK T a (fun kc kn F A => Bool.rec (motive := fun _ => Bool) false (Bool.rec (motive := fun _ => Bool) false (List.rec (motive := fun _ => Bool) (Nat.rec (motive := fun _ => Bool) (decK C 0 (fun w => go D k cc rest ls (w :: t) fs T s u C)) (fun c _ => decK C (Nat.succ c) (fun w => go D k cc rest ls (w :: t) fs T s u C)) (pget A n)) (fun _ _ _ => go D k cc rest ls (aI :: t) fs T s u C) F) (Nat.ble (Nat.succ n) kn)) (ok2 kc)) = (match q7 T a with
          | some (kc, kn, F, A) => cond (ok kc && Nat.ble (Nat.succ n) kn) (match F with
            | [] => fN (pget A n) (fun c => nrmK C (dec c) (fun w => go D k cc rest ls (w :: t) fs T s u C))
            | _ :: _ => go D k cc rest ls (aI :: t) fs T s u C) false
          | none => false)
        cases hq : q7 T a with
        | none => exact atK_none hq
        | some o =>
          obtain ⟨kc, kn, F, A⟩ := o
          rw [atK_some hq]
          show Bool.rec (motive := fun _ => Bool) false (Bool.rec (motive := fun _ => Bool) false _ (Nat.ble (Nat.succ n) kn)) (ok2 kc) = cond (ok kc && Nat.ble (Nat.succ n) kn) _ false
          rw [cond_rec2, ho]
          congr 2
          cases F with
          | cons x y => rfl
          | nil =>
            show Nat.rec (motive := fun _ => Bool) _ _ (pget A n) = fN (pget A n) (fun c => nrmK C (dec c) _)
            rw [fN_eq]
            cases pget A n with
            | zero => exact decK_eq C 0 _
            | succ m => exact decK_eq C (m + 1) _
      · rfl
    · rfl
    · rfl
    · rfl
    · rfl
    · rfl
noncomputable def okI (g : Nat) : Bool := Bool.rec (motive := fun _ => Bool) (Nat.beq g 23) true (Nat.beq g 20)
theorem okI_eq (g : Nat) : okI g = (Nat.beq g 20 || Nat.beq g 23) := by
  unfold okI
  cases Nat.beq g 20 <;> rfl
/-! branches -/
noncomputable def eqF (x y : Int) : Bool := Int.rec (motive := fun _ => Bool) (fun a => Int.rec (motive := fun _ => Bool) (fun b => Nat.beq a b) (fun _ => false) y) (fun a => Int.rec (motive := fun _ => Bool) (fun _ => false) (fun b => Nat.beq a b) y) x
noncomputable def ltF (x y : Int) : Bool := Int.rec (motive := fun _ => Bool) (fun a => Int.rec (motive := fun _ => Bool) (fun b => Nat.ble (Nat.succ a) b) (fun _ => false) y) (fun a => Int.rec (motive := fun _ => Bool) (fun _ => true) (fun b => Nat.ble (Nat.succ b) a) y) x
theorem eqF_eq (x y : Int) : eqF x y = eqB x y := by cases x <;> cases y <;> rfl
theorem ltF_eq (x y : Int) : ltF x y = ltB x y := by cases x <;> cases y <;> rfl
noncomputable def cmV (c : Jvm.ClassFile.Cond) (x y : Int) : Bool := Jvm.ClassFile.Cond.rec (motive := fun _ => Bool) (eqF x y) (Bool.rec (motive := fun _ => Bool) true false (eqF x y)) (ltF x y) (Bool.rec (motive := fun _ => Bool) true false (ltF x y)) (ltF y x) (Bool.rec (motive := fun _ => Bool) true false (ltF y x)) c
theorem not_rec (b : Bool) : Bool.rec (motive := fun _ => Bool) true false b = not b := by cases b <;> rfl
theorem cmV_eq (c : Jvm.ClassFile.Cond) (x y : Int) : cmV c x y = cmB c x y := by
  cases c with
  | eq => exact eqF_eq x y
  | ne => show Bool.rec (motive := fun _ => Bool) true false (eqF x y) = not (eqB x y); rw [eqF_eq, not_rec]
  | lt => exact ltF_eq x y
  | ge => show Bool.rec (motive := fun _ => Bool) true false (ltF x y) = not (ltB x y); rw [ltF_eq, not_rec]
  | gt => exact ltF_eq y x
  | le => show Bool.rec (motive := fun _ => Bool) true false (ltF y x) = not (ltB y x); rw [ltF_eq, not_rec]
noncomputable def brF (c : Jvm.ClassFile.Cond) (C : CT) (x y : VV) (kt kf : CT → Bool) : Bool := Bool.rec (motive := fun _ => Bool) (x_br c C x y kt kf) (Bool.rec (motive := fun _ => Bool) (x_br c C x y kt kf) (Bool.rec (motive := fun _ => Bool) (kf C) (kt C) (cmV c (intA x) (intA y))) (isInt x)) (isInt y)
theorem brF_eq (c : Jvm.ClassFile.Cond) (C : CT) (x y : VV) (kt kf : CT → Bool) : brF c C x y kt kf = x_br c C x y kt kf := by
  rcases y with (b | y) | y
  · rcases x with (a | x) | x
    · show Bool.rec (motive := fun _ => Bool) (kf C) (kt C) (cmV c a b) = (match cond (cmB c a b) 1 0 with
        | 0 => kf C
        | 1 => kt C
        | 2 => kt (rfC c C (ci a) (ci b)) && kf (rfC (ncd c) C (ci a) (ci b))
        | _ => false)
      rw [cmV_eq]
      cases cmB c a b <;> rfl
    · rfl
    · rfl
  · rfl
  · rfl
noncomputable def x_icmpF (c : Jvm.ClassFile.Cond) : XF := fun go e D k cc rest ls st fs T s u C => List.rec (motive := fun _ => Bool) false (fun y r _ => List.rec (motive := fun _ => Bool) false (fun x t _ => brF c C x y (fun C1 => go D k cc (dropN e.2.2.2.1 cc) ls t fs T s u C1) (fun C1 => go D k cc rest ls t fs T s u C1)) r) st
noncomputable def x_ifF (c : Jvm.ClassFile.Cond) : XF := fun go e D k cc rest ls st fs T s u C => List.rec (motive := fun _ => Bool) false (fun x t _ => brF c C x (Sum.inl (Sum.inl (Int.ofNat 0))) (fun C1 => go D k cc (dropN e.2.2.2.1 cc) ls t fs T s u C1) (fun C1 => go D k cc rest ls t fs T s u C1)) st
theorem x_icmpF_eq (c : Jvm.ClassFile.Cond) : x_icmpF c = x_icmp c := by
  funext go e D k cc rest ls st fs T s u C
  rcases st with _ | ⟨y, _ | ⟨x, t⟩⟩
  · rfl
  · rfl
  · exact brF_eq c C x y (fun C1 => go D k cc (dropN e.2.2.2.1 cc) ls t fs T s u C1) (fun C1 => go D k cc rest ls t fs T s u C1)
theorem x_ifF_eq (c : Jvm.ClassFile.Cond) : x_ifF c = x_if c := by
  funext go e D k cc rest ls st fs T s u C
  rcases st with _ | ⟨x, t⟩
  · rfl
  · exact brF_eq c C x (ci 0) (fun C1 => go D k cc (dropN e.2.2.2.1 cc) ls t fs T s u C1) (fun C1 => go D k cc rest ls t fs T s u C1)
/-! locals -/
noncomputable def klF (i : Nat) (ls : List VV) (k : List VV → Bool) : Bool := Bool.rec (motive := fun _ => Bool) (k ls) (lsetK (Nat.sub i 1) ls cN k) (Nat.beq (tyF (lget (Nat.sub i 1) ls)) 1)
theorem klF_eq (i : Nat) (ls : List VV) (k : List VV → Bool) : klF i ls k = klK i ls k := by
  unfold klF klK
  rw [tyF_eq, cond_rec]
noncomputable def isNatI (n : Int) : Bool := Int.rec (motive := fun _ => Bool) (fun _ => true) (fun _ => false) n
noncomputable def absN (n : Int) : Nat := Int.rec (motive := fun _ => Nat) (fun m => m) (fun m => Nat.succ m) n
noncomputable def incK (n : Int) (v : VV) (k : VV → Bool) (FB : Bool) : Bool := Bool.rec (motive := fun _ => Bool) FB (Bool.rec (motive := fun _ => Bool) (Bool.rec (motive := fun _ => Bool) FB (natK (Nat.sub (natA v) (absN n)) (fun z => k (Sum.inl (Sum.inl z))) FB) (Nat.ble (absN n) (natA v))) (natK (Nat.add (natA v) (absN n)) (fun z => k (Sum.inl (Sum.inl z))) FB) (isNatI n)) (isNat v)
theorem incK_eq (n : Int) (v : VV) (k : VV → Bool) : incK n v k (oV (un2 (fun x => fadd x n) v) k) = oV (un2 (fun x => fadd x n) v) k := by
  rcases v with ((a | a) | v) | v
  · cases n with
    | ofNat m => exact natK_eq (k := fun z => k (Sum.inl (Sum.inl z))) (x := fadd (Int.ofNat a) (Int.ofNat m)) rfl
    | negSucc m =>
      show Bool.rec (motive := fun _ => Bool) (fI (fadd (Int.ofNat a) (Int.negSucc m)) (fun z => k (ci z))) (natK (Nat.sub a (Nat.succ m)) (fun z => k (Sum.inl (Sum.inl z))) (fI (fadd (Int.ofNat a) (Int.negSucc m)) (fun z => k (ci z)))) (Nat.ble (Nat.succ m) a) = fI (fadd (Int.ofNat a) (Int.negSucc m)) (fun z => k (ci z))
      cases hb : Nat.ble (Nat.succ m) a with
      | false => rfl
      | true =>
        have hl := blm hb
        refine natK_eq (k := fun z => k (Sum.inl (Sum.inl z))) (x := fadd (Int.ofNat a) (Int.negSucc m)) ?_
        have e : Int.add (Int.ofNat a) (Int.negSucc m) = Int.ofNat (Nat.sub a (Nat.succ m)) := by
          show (a : Int) + Int.negSucc m = ((a - (m + 1) : Nat) : Int)
          simp only [Int.negSucc_eq]
          omega
        show fI32 (Int.add (Int.ofNat a) (Int.negSucc m)) = _
        rw [e]
  · rfl
  · rfl
  · rfl
noncomputable def x_iincF (n : Int) : XF := fun go e D k cc rest ls st fs T s u C => incK n (lget e.2.2.2.1 ls) (fun v => klF e.2.2.2.1 ls (fun l1 => lsetK e.2.2.2.1 l1 v (fun l2 => go D k cc rest l2 st fs T s u C))) (oV (un2 (fun x => fadd x n) (lget e.2.2.2.1 ls)) (fun v => klF e.2.2.2.1 ls (fun l1 => lsetK e.2.2.2.1 l1 v (fun l2 => go D k cc rest l2 st fs T s u C))))
theorem x_iincF_eq (n : Int) : x_iincF n = x_iinc n := by
  funext go e D k cc rest ls st fs T s u C
  unfold x_iincF
  rw [incK_eq]
  simp only [klF_eq]
  rfl
noncomputable def x_storeIF : XF := fun go e D k cc rest ls st fs T s u C => Bool.rec (motive := fun _ => Bool) (x_mac go e D k cc rest ls st fs T s u C) (List.rec (motive := fun _ => Bool) false (fun v r _ => loadI v (fun v => klF e.2.2.2.1 ls (fun l1 => lsetK e.2.2.2.1 l1 v (fun l2 => go D k cc rest l2 r fs T s u C)))) st) (Nat.beq e.2.2.2.2.1 0)
theorem x_storeIF_eq : x_storeIF = x_store 0 := by
  funext go e D k cc rest ls st fs T s u C
  unfold x_storeIF x_store
  rw [cond_rec]
  simp only [klF_eq]
  cases st with
  | nil => rfl
  | cons v r => simp only [loadI_eq]
/-! calls -/
noncomputable def wdsF (l : List VV) : Nat := List.rec (motive := fun _ => Nat) 0 (fun v _ ih => Nat.add (Bool.rec (motive := fun _ => Nat) 1 2 (Nat.beq (tyF v) 1)) ih) l
theorem wdsF_eq : ∀ l : List VV, wdsF l = wdsV l
  | [] => rfl
  | v :: r => by
    show Nat.add (Bool.rec (motive := fun _ => Nat) 1 2 (Nat.beq (tyF v) 1)) (wdsF r) = Nat.add (wdV v) (wdsV r)
    rw [wdsF_eq r, tyF_eq]
    unfold wdV
    cases Nat.beq (ty v) 1 <;> rfl
noncomputable def popF (n : Nat) : List VV → List VV → (List VV → List VV → Bool) → Bool := Nat.rec (motive := fun _ => List VV → List VV → (List VV → List VV → Bool) → Bool) (fun t acc k => k acc t) (fun _ ih st acc k => List.rec (motive := fun _ => Bool) false (fun v t _ => ih t (v :: acc) k) st) n
theorem popF_eq : ∀ (n : Nat) (st acc : List VV) (k : List VV → List VV → Bool), popF n st acc k = popN n st acc k
  | 0, _, _, _ => rfl
  | n + 1, [], _, _ => rfl
  | n + 1, v :: t, acc, k => popF_eq n t (v :: acc) k
noncomputable def repF (n : Nat) : (List VV → Bool) → Bool := Nat.rec (motive := fun _ => (List VV → Bool) → Bool) (fun k => k []) (fun _ ih k => ih (fun l => k (Sum.inl (Sum.inr (Sum.inr none)) :: l))) n
theorem repF_eq : ∀ (n : Nat) (k : List VV → Bool), repF n k = repK n k
  | 0, _ => rfl
  | n + 1, k => repF_eq n (fun l => k (cN :: l))
noncomputable def entF (l : List VV) : Nat → (List VV → Bool) → Bool := List.rec (motive := fun _ => Nat → (List VV → Bool) → Bool) (fun ml k => repF ml k) (fun v _ ih ml k => Bool.rec (motive := fun _ => Bool) (Nat.rec (motive := fun _ => Bool) false (fun m _ => ih m (fun l => k (v :: l))) ml) (Nat.rec (motive := fun _ => Bool) false (fun m1 _ => Nat.rec (motive := fun _ => Bool) false (fun m _ => ih m (fun l => k (v :: Sum.inl (Sum.inr (Sum.inr none)) :: l))) m1) ml) (Nat.beq (tyF v) 1)) l
theorem entF_eq : ∀ (l : List VV) (ml : Nat) (k : List VV → Bool), entF l ml k = entK l ml k
  | [], ml, k => repF_eq ml k
  | v :: r, ml, k => by
    have e1 : entF (v :: r) ml k = Bool.rec (motive := fun _ => Bool) (Nat.rec (motive := fun _ => Bool) false (fun m _ => entF r m (fun l => k (v :: l))) ml) (Nat.rec (motive := fun _ => Bool) false (fun m1 _ => Nat.rec (motive := fun _ => Bool) false (fun m _ => entF r m (fun l => k (v :: cN :: l))) m1) ml) (Nat.beq (tyF v) 1) := rfl
    rw [e1, tyF_eq]
    unfold entK
    cases Nat.beq (ty v) 1 with
    | false =>
      cases ml with
      | zero => rfl
      | succ m => exact entF_eq r m _
    | true =>
      rcases ml with _ | _ | m
      · rfl
      · rfl
      · exact entF_eq r m _
noncomputable def callF (go : GO) (y : Nat) (cd : List OE) (ml : Nat) (vs t : List VV) (D k : Nat) (cc rest : List OE) (ls : List VV) (fs : List FR) (T : HT) (s u : Nat) (C : CT) : Bool := Nat.rec (motive := fun _ => Bool) false (fun D2 _ => List.rec (motive := fun _ => Bool) false (fun _ _ _ => entF vs ml (fun l2 => go D2 y cd cd l2 [] ((k, cc, rest, ls, t) :: fs) T s u C)) rest) D
theorem callF_eq (go : GO) (y : Nat) (q : List OE × Nat × Nat) (vs t : List VV) (D k : Nat) (cc rest : List OE) (ls : List VV) (fs : List FR) (T : HT) (s u : Nat) (C : CT) : callF go y q.1 q.2.1 vs t D k cc rest ls fs T s u C = callR go y q vs t D k cc rest ls fs T s u C := by
  unfold callF callR
  cases D with
  | zero => rfl
  | succ D2 => cases rest with
    | nil => rfl
    | cons e r => exact entF_eq _ _ _
noncomputable def dn9 (n i : Nat) (t : BT (List OE × Nat × Nat) (n + 1)) : BT (List OE × Nat × Nat) n := Option.rec (motive := fun _ => BT (List OE × Nat × Nat) n) (bN n) (fun p => Prod.rec (motive := fun _ => BT (List OE × Nat × Nat) n) (fun l r => Bool.rec (motive := fun _ => BT (List OE × Nat × Nat) n) l r (Nat.beq (Nat.mod (Nat.shiftRight i n) 2) 1)) p) (t : Option (BT (List OE × Nat × Nat) n × BT (List OE × Nat × Nat) n))
noncomputable def q9F (i : Nat) : Option (List OE × Nat × Nat) := dn9 0 i (dn9 1 i (dn9 2 i (dn9 3 i (dn9 4 i (dn9 5 i (dn9 6 i (dn9 7 i (dn9 8 i mtT))))))))
theorem q9F_eq (i : Nat) : q9F i = q9 mtT i := rfl
noncomputable def mS (y : Nat) : Bool := Option.rec (motive := fun _ => Bool) false (fun _ => true) (q9F y)
noncomputable def mcd (y : Nat) : List OE := Option.rec (motive := fun _ => List OE) [] (fun q => Prod.rec (motive := fun _ => List OE) (fun c _ => c) q) (q9F y)
noncomputable def mml (y : Nat) : Nat := Option.rec (motive := fun _ => Nat) 0 (fun q => Prod.rec (motive := fun _ => Nat) (fun _ r => Prod.rec (motive := fun _ => Nat) (fun n _ => n) r) q) (q9F y)
noncomputable def mcl (y : Nat) : Nat := Option.rec (motive := fun _ => Nat) 0 (fun q => Prod.rec (motive := fun _ => Nat) (fun _ r => Prod.rec (motive := fun _ => Nat) (fun _ n => n) r) q) (q9F y)
noncomputable def invOK (o : Option OB) (y : Nat) : Bool := Bool.rec (motive := fun _ => Bool) false (Bool.rec (motive := fun _ => Bool) (obIs o (mcl y)) false (Nat.beq y wrM)) (mS y)
noncomputable def invF (go : GO) (y a : Nat) (v : VV) (vs t2 : List VV) (D k : Nat) (cc rest : List OE) (ls : List VV) (fs : List FR) (T : HT) (s u : Nat) (C : CT) : Bool :=
  Bool.rec (motive := fun _ => Bool) (invK go y a vs t2 D k cc rest ls fs T s u C) (Bool.rec (motive := fun _ => Bool) false (callF go y (mcd y) (mml y) (v :: vs) t2 D k cc rest ls fs T s u C) (Nat.ble (wdsF t2) 8)) (invOK (q7F T a) y)
theorem invF_eq (go : GO) (y a : Nat) (vs t2 : List VV) (D k : Nat) (cc rest : List OE) (ls : List VV) (fs : List FR) (T : HT) (s u : Nat) (C : CT) : invF go y a (cR a) vs t2 D k cc rest ls fs T s u C = invK go y a vs t2 D k cc rest ls fs T s u C := by
  unfold invF
  cases hi : invOK (q7F T a) y with
  | false => rfl
  | true =>
    rw [q7F_eq] at hi
    cases h9 : q9 mtT y with
    | none =>
      exfalso
      unfold invOK mS at hi
      rw [q9F_eq, h9] at hi
      cases (show false = true from hi)
    | some q =>
      obtain ⟨cd, ml, cl⟩ := q
      have c1 : mcl y = cl := by unfold mcl; rw [q9F_eq, h9]
      have c2 : mcd y = cd := by unfold mcd; rw [q9F_eq, h9]
      have c3 : mml y = ml := by unfold mml; rw [q9F_eq, h9]
      have c4 : mS y = true := by unfold mS; rw [q9F_eq, h9]
      unfold invOK at hi
      rw [c1, c4] at hi
      have hi : Bool.rec (motive := fun _ => Bool) (obIs (q7 T a) cl) false (Nat.beq y wrM) = true := hi
      cases hw : Nat.beq y wrM with
      | true => rw [hw] at hi; cases (show false = true from hi)
      | false =>
        rw [hw] at hi
        have hi : obIs (q7 T a) cl = true := hi
        cases hq : q7 T a with
        | none => rw [hq] at hi; cases (show false = true from hi)
        | some o =>
          obtain ⟨kc, kn, F, A⟩ := o
          rw [hq] at hi
          have hi : Bool.rec (motive := fun _ => Bool) false (Nat.beq kn 0) (Nat.beq kc cl) = true := hi
          cases hb : Nat.beq kc cl with
          | false => rw [hb] at hi; cases (show false = true from hi)
          | true =>
            rw [hb] at hi
            have hn : Nat.beq kn 0 = true := hi
            have e : invK go y a vs t2 D k cc rest ls fs T s u C = cond (Nat.beq kc cl && Nat.beq kn 0) (cond (Nat.beq y wrM && not (vs.all isC)) (wrapK 1 go vs t2 D k cc rest ls fs T s u C)
              (cond (Nat.ble (wdsV t2) 8) (callR go y (cd, ml, cl) (cR a :: vs) t2 D k cc rest ls fs T s u C) false)) false := by
              unfold invK
              rw [hq, h9]
            rw [e, hb, hn, hw, c2, c3]
            show Bool.rec (motive := fun _ => Bool) false (callF go y cd ml (cR a :: vs) t2 D k cc rest ls fs T s u C) (Nat.ble (wdsF t2) 8) = cond (Nat.ble (wdsV t2) 8) (callR go y (cd, ml, cl) (cR a :: vs) t2 D k cc rest ls fs T s u C) false
            rw [cond_rec, wdsF_eq]
            congr 1
            exact callF_eq go y (cd, ml, cl) (cR a :: vs) t2 D k cc rest ls fs T s u C
noncomputable def x_invF : XF := fun go e D k cc rest ls st fs T s u C => popF e.2.2.2.2.2 st [] (fun vs t => List.rec (motive := fun _ => Bool) false (fun v t2 _ => Bool.rec (motive := fun _ => Bool) false (invF go e.2.2.2.2.1 (refA v) v vs t2 D k cc rest ls fs T s u C) (isRef v)) t)
theorem x_invF_eq : x_invF = x_inv := by
  funext go e D k cc rest ls st fs T s u C
  unfold x_invF x_inv
  rw [popF_eq]
  congr 1
  funext vs t
  rcases t with _ | ⟨((x | x | (_ | a)) | p), t⟩
  · rfl
  · rfl
  · rfl
  · rfl
  · exact invF_eq _ _ _ _ _ _ _ _ _ _ _ _ _ _ _
  · rfl
noncomputable def okGF (g : Nat) (v : VV) : Bool := Sum.rec (motive := fun _ => Bool) (fun m => Sum.rec (motive := fun _ => Bool) (fun x => Bool.rec (motive := fun _ => Bool) (Bool.rec (motive := fun _ => Bool) false (Int.rec (motive := fun _ => Bool) (fun n => Nat.ble n 1) (fun _ => false) x) (Nat.beq g 2)) true (Nat.beq g 1)) (fun m2 => okG g (Sum.inl (Sum.inr m2))) m) (fun p => okG g (Sum.inr p)) v
theorem okGF_eq (g : Nat) (v : VV) : okGF g v = okG g v := by
  rcases v with (x | v) | v
  · show Bool.rec (motive := fun _ => Bool) (Bool.rec (motive := fun _ => Bool) false (Int.rec (motive := fun _ => Bool) (fun n => Nat.ble n 1) (fun _ => false) x) (Nat.beq g 2)) true (Nat.beq g 1) = cond (Nat.beq g 1) true (cond (Nat.beq g 2) (eqB x 0 || eqB x 1) false)
    have e : Int.rec (motive := fun _ => Bool) (fun n => Nat.ble n 1) (fun _ => false) x = (eqB x 0 || eqB x 1) := by
      cases x with
      | ofNat n => rcases n with _ | _ | n <;> rfl
      | negSucc n => rfl
    rw [e, cond_rec, cond_rec]
  · rfl
  · rfl
noncomputable def x_iretF : XF := fun go e D k cc rest ls st fs T s u C => List.rec (motive := fun _ => Bool) false (fun v r _ => List.rec (motive := fun _ => Bool) (Bool.rec (motive := fun _ => Bool) false (List.rec (motive := fun _ => Bool) (x_iret go e D k cc rest ls st fs T s u C) (fun f fs2 _ => Prod.rec (motive := fun _ => Bool) (fun k2 q => Prod.rec (motive := fun _ => Bool) (fun cc2 q2 => Prod.rec (motive := fun _ => Bool) (fun c2 q3 => Prod.rec (motive := fun _ => Bool) (fun ls2 st2 => go (Nat.succ D) k2 cc2 c2 ls2 (v :: st2) fs2 T s u C) q3) q2) q) f) fs) (okGF e.2.2.2.1 v)) (fun _ _ _ => false) r) st
theorem x_iretF_eq : x_iretF = x_iret := by
  funext go e D k cc rest ls st fs T s u C
  rcases st with _ | ⟨v, _ | ⟨w, t⟩⟩
  · rfl
  · have e1 : x_iret go e D k cc rest ls [v] fs T s u C = cond (okG e.2.2.2.1 v) (match fs with
      | (k2, cc2, c2, ls2, st2) :: fs2 => go (Nat.succ D) k2 cc2 c2 ls2 (v :: st2) fs2 T s u C
      | [] => (match v with
        | .inl (.inl x) => eqB x 1 && (Nat.ble s 600001 && Nat.ble u 7302250)
        | _ => false)) false := rfl
    show Bool.rec (motive := fun _ => Bool) false (List.rec (motive := fun _ => Bool) (x_iret go e D k cc rest ls [v] fs T s u C) _ fs) (okGF e.2.2.2.1 v) = _
    rw [okGF_eq]
    cases fs with
    | nil =>
      show Bool.rec (motive := fun _ => Bool) false (x_iret go e D k cc rest ls [v] [] T s u C) (okG e.2.2.2.1 v) = _
      rw [e1]
      cases okG e.2.2.2.1 v <;> rfl
    | cons f fs2 =>
      rw [e1]
      cases okG e.2.2.2.1 v <;> rfl
  · rfl
/-! writing -/
noncomputable def bsF (n : Nat) : BT OB n → Nat → OB → (BT OB n → Bool) → Bool :=
  Nat.rec (motive := fun n => BT OB n → Nat → OB → (BT OB n → Bool) → Bool) (fun _ _ v k => k (some v : Option OB))
    (fun n ih t i v k => Option.rec (motive := fun _ => Bool)
      (Bool.rec (motive := fun _ => Bool) (ih (bN n) i v (fun c => k (some (c, bN n) : Option (BT OB n × BT OB n)))) (ih (bN n) (Nat.sub i (Nat.pow 2 n)) v (fun c => k (some (bN n, c) : Option (BT OB n × BT OB n)))) (Nat.ble (Nat.pow 2 n) i))
      (fun p => Prod.rec (motive := fun _ => Bool) (fun l r => Bool.rec (motive := fun _ => Bool) (ih l i v (fun c => k (some (c, r) : Option (BT OB n × BT OB n)))) (ih r (Nat.sub i (Nat.pow 2 n)) v (fun c => k (some (l, c) : Option (BT OB n × BT OB n)))) (Nat.ble (Nat.pow 2 n) i)) p)
      (t : Option (BT OB n × BT OB n))) n
theorem bsF_eq : ∀ (n : Nat) (t : BT OB n) (i : Nat) (v : OB) (k : BT OB n → Bool), bsF n t i v k = bsetK n t i v k
  | 0, _, _, _, _ => rfl
  | n + 1, t, i, v, k => by
    have ih := bsF_eq n
    have key : ∀ t : Option (BT OB n × BT OB n), bsF (n + 1) t i v k = bsetK (n + 1) t i v k := by
      intro t
      cases t with
      | none =>
        show Bool.rec (motive := fun _ => Bool) (bsF n (bN n) i v _) (bsF n (bN n) (Nat.sub i (Nat.pow 2 n)) v _) (Nat.ble (Nat.pow 2 n) i) = cond (Nat.ble (Nat.pow 2 n) i) (bsetK n (bN n) (Nat.sub i (Nat.pow 2 n)) v _) (bsetK n (bN n) i v _)
        rw [cond_rec, ih, ih]
      | some p =>
        obtain ⟨l, r⟩ := p
        show Bool.rec (motive := fun _ => Bool) (bsF n l i v _) (bsF n r (Nat.sub i (Nat.pow 2 n)) v _) (Nat.ble (Nat.pow 2 n) i) = cond (Nat.ble (Nat.pow 2 n) i) (bsetK n r (Nat.sub i (Nat.pow 2 n)) v _) (bsetK n l i v _)
        rw [cond_rec, ih, ih]
    exact key t
noncomputable def x_putF : XF := fun go e D k cc rest ls st fs T s u C => List.rec (motive := fun _ => Bool) false (fun v r _ => List.rec (motive := fun _ => Bool) false (fun w t _ => Bool.rec (motive := fun _ => Bool) false (Bool.rec (motive := fun _ => Bool) false (Bool.rec (motive := fun _ => Bool) false (fN (obA (q7F T (refA w))) (fun A => fsetK e.2.2.2.2.2 (obF (q7F T (refA w))) v (fun F2 => bsF 7 T (refA w) (e.2.2.2.2.1, 0, F2, A) (fun T2 => go D k cc rest ls t fs T2 s u C)))) (okGF e.2.2.2.1 v)) (obIs (q7F T (refA w)) e.2.2.2.2.1)) (isRef w)) r) st
theorem x_putF_eq : x_putF = x_put := by
  funext go e D k cc rest ls st fs T s u C
  rcases st with _ | ⟨v, _ | ⟨((x | x | (_ | a)) | p), t⟩⟩
  · rfl
  · rfl
  · rfl
  · rfl
  · rfl
  · show Bool.rec (motive := fun _ => Bool) false (Bool.rec (motive := fun _ => Bool) false (fN (obA (q7F T a)) (fun A => fsetK e.2.2.2.2.2 (obF (q7F T a)) v (fun F2 => bsF 7 T a (e.2.2.2.2.1, 0, F2, A) (fun T2 => go D k cc rest ls t fs T2 s u C)))) (okGF e.2.2.2.1 v)) (obIs (q7F T a) e.2.2.2.2.1) = (match q7 T a with
      | some (kc, kn, F, A) => cond (Nat.beq kc e.2.2.2.2.1 && (Nat.beq kn 0 && okG e.2.2.2.1 v)) (fsetK e.2.2.2.2.2 F v (fun F2 => bsetK 7 T a (kc, kn, F2, A) (fun T2 => go D k cc rest ls t fs T2 s u C))) false
      | none => false)
    rw [q7F_eq]
    cases hq : q7 T a with
    | none => rfl
    | some o =>
      obtain ⟨kc, kn, F, A⟩ := o
      show Bool.rec (motive := fun _ => Bool) false (Bool.rec (motive := fun _ => Bool) false (fN A (fun A => fsetK e.2.2.2.2.2 F v (fun F2 => bsF 7 T a (e.2.2.2.2.1, 0, F2, A) (fun T2 => go D k cc rest ls t fs T2 s u C)))) (okGF e.2.2.2.1 v)) (Bool.rec (motive := fun _ => Bool) false (Nat.beq kn 0) (Nat.beq kc e.2.2.2.2.1)) = cond (Nat.beq kc e.2.2.2.2.1 && (Nat.beq kn 0 && okG e.2.2.2.1 v)) _ false
      rw [okGF_eq, fN_eq]
      simp only [bsF_eq]
      cases hc : Nat.beq kc e.2.2.2.2.1 with
      | false => rfl
      | true =>
        cases hn : Nat.beq kn 0 with
        | false => rfl
        | true =>
          rw [← Nat.eq_of_beq_eq_true hc, Nat.eq_of_beq_eq_true hn]
          cases okG e.2.2.2.1 v <;> rfl
  · rfl
noncomputable def encK (v : VV) (k : Nat → Bool) : Bool := Sum.rec (motive := fun _ => Bool) (fun m => Sum.rec (motive := fun _ => Bool) (fun x => Int.rec (motive := fun _ => Bool) (fun n => Bool.rec (motive := fun _ => Bool) (Option.rec (motive := fun _ => Bool) false k (enc v)) (k n) (Nat.ble n 2147483647)) (fun _ => Option.rec (motive := fun _ => Bool) false k (enc v)) x) (fun _ => Option.rec (motive := fun _ => Bool) false k (enc v)) m) (fun _ => Option.rec (motive := fun _ => Bool) false k (enc v)) v
theorem encK_eq (v : VV) (k : Nat → Bool) : encK v k = Option.rec (motive := fun _ => Bool) false k (enc v) := by
  rcases v with ((n | n) | x) | p
  · show Bool.rec (motive := fun _ => Bool) (Option.rec (motive := fun _ => Bool) false k (enc (ci (Int.ofNat n)))) (k n) (Nat.ble n 2147483647) = Option.rec (motive := fun _ => Bool) false k (enc (ci (Int.ofNat n)))
    cases h : Nat.ble n 2147483647 with
    | false => rfl
    | true =>
      have e : enc (ci (Int.ofNat n)) = some n := by
        unfold enc
        show cond (Nat.ble n 2147483647) (some n) none = some n
        rw [h, cond_true]
      rw [e]
  · rfl
  · rfl
  · rfl
noncomputable def obK (c : Nat) (o : Option OB) : Bool := Bool.rec (motive := fun _ => Bool) false (Nat.beq (obC o) c) (obS o)
noncomputable def x_astF (kc0 g : Nat) : XF := fun go _ D k cc rest ls st fs T s u C => List.rec (motive := fun _ => Bool) false (fun v r _ => List.rec (motive := fun _ => Bool) false (fun w r2 _ => List.rec (motive := fun _ => Bool) false (fun z t _ => Bool.rec (motive := fun _ => Bool) false (Bool.rec (motive := fun _ => Bool) false (Bool.rec (motive := fun _ => Bool) false (Bool.rec (motive := fun _ => Bool) false (Bool.rec (motive := fun _ => Bool) false (List.rec (motive := fun _ => Bool) (encK v (fun c => fN (obN (q7F T (refA z))) (fun kn => fN (pset (obA (q7F T (refA z))) (natA w) c) (fun A2 => bsF 7 T (refA z) (kc0, kn, [], A2) (fun T2 => go D k cc rest ls t fs T2 s u C))))) (fun _ _ _ => false) (obF (q7F T (refA z)))) (okGF g v)) (Nat.ble (Nat.succ (natA w)) (obN (q7F T (refA z))))) (obK kc0 (q7F T (refA z)))) (isRef z)) (isNat w)) r2) r) st
theorem x_astF_eq (kc0 g : Nat) : x_astF kc0 g = x_ast kc0 g := by
  funext go e D k cc rest ls st fs T s u C
  rcases st with _ | ⟨v, _ | ⟨w, _ | ⟨z, t⟩⟩⟩
  · rfl
  · rfl
  · rcases w with ((n | n) | x | (_ | a)) | p <;> rfl
  · rcases w with ((n | n) | x | (_ | a)) | p
    · rcases z with (y | y | (_ | a)) | p
      · rfl
      · rfl
      · rfl
      · show Bool.rec (motive := fun _ => Bool) false (Bool.rec (motive := fun _ => Bool) false (Bool.rec (motive := fun _ => Bool) false (List.rec (motive := fun _ => Bool) (encK v (fun c => fN (obN (q7F T a)) (fun kn => fN (pset (obA (q7F T a)) n c) (fun A2 => bsF 7 T a (kc0, kn, [], A2) (fun T2 => go D k cc rest ls t fs T2 s u C))))) (fun _ _ _ => false) (obF (q7F T a))) (okGF g v)) (Nat.ble (Nat.succ n) (obN (q7F T a)))) (obK kc0 (q7F T a)) = (match q7 T a with
          | some (kc, kn, F, A) => cond (Nat.beq kc kc0 && (Nat.ble (Nat.succ n) kn && okG g v)) (match F with
            | [] => (match enc v with
              | some c => fN (pset A n c) (fun A2 => bsetK 7 T a (kc, kn, [], A2) (fun T2 => go D k cc rest ls t fs T2 s u C))
              | none => false)
            | _ :: _ => false) false
          | none => false)
        rw [q7F_eq]
        cases hq : q7 T a with
        | none => rfl
        | some o =>
          obtain ⟨kc, kn, F, A⟩ := o
          show Bool.rec (motive := fun _ => Bool) false (Bool.rec (motive := fun _ => Bool) false (Bool.rec (motive := fun _ => Bool) false (List.rec (motive := fun _ => Bool) (encK v (fun c => fN kn (fun kn => fN (pset A n c) (fun A2 => bsF 7 T a (kc0, kn, [], A2) (fun T2 => go D k cc rest ls t fs T2 s u C))))) (fun _ _ _ => false) F) (okGF g v)) (Nat.ble (Nat.succ n) kn)) (Nat.beq kc kc0) = cond (Nat.beq kc kc0 && (Nat.ble (Nat.succ n) kn && okG g v)) _ false
          rw [okGF_eq]
          simp only [bsF_eq, fN_eq kn]
          cases hc : Nat.beq kc kc0 with
          | false => rfl
          | true =>
            rw [Nat.eq_of_beq_eq_true hc]
            have e3 : ∀ (b2 b3 X Y : Bool), X = Y → Bool.rec (motive := fun _ => Bool) false (Bool.rec (motive := fun _ => Bool) false X b3) b2 = cond (true && (b2 && b3)) Y false := by
              intro b2 b3 X Y h
              cases b2 <;> cases b3 <;> first | rfl | exact h
            refine e3 _ _ _ _ ?_
            cases F with
            | cons x y => rfl
            | nil =>
              show encK v _ = _
              rw [encK_eq]
              cases enc v <;> rfl
      · rfl
    · rfl
    · rfl
    · rfl
    · rfl
    · rfl
/-! which of them an instruction is: a closed term, which the kernel keeps -/
noncomputable def x_ldA0 : XF := fun go _ D k cc rest ls st fs T s u C => List.rec (motive := fun _ => Bool) false (fun v _ _ => loadA v (fun v => go D k cc rest ls (v :: st) fs T s u C)) ls
noncomputable def x_ldA1 : XF := fun go _ D k cc rest ls st fs T s u C => List.rec (motive := fun _ => Bool) false (fun _ l _ => List.rec (motive := fun _ => Bool) false (fun v _ _ => loadA v (fun v => go D k cc rest ls (v :: st) fs T s u C)) l) ls
noncomputable def x_ldI1 : XF := fun go _ D k cc rest ls st fs T s u C => List.rec (motive := fun _ => Bool) false (fun _ l _ => List.rec (motive := fun _ => Bool) false (fun v _ _ => loadI v (fun v => go D k cc rest ls (v :: st) fs T s u C)) l) ls
noncomputable def x_ldI2 : XF := fun go _ D k cc rest ls st fs T s u C => List.rec (motive := fun _ => Bool) false (fun _ l _ => List.rec (motive := fun _ => Bool) false (fun _ l2 _ => List.rec (motive := fun _ => Bool) false (fun v _ _ => loadI v (fun v => go D k cc rest ls (v :: st) fs T s u C)) l2) l) ls
noncomputable def x_ldI3 : XF := fun go _ D k cc rest ls st fs T s u C => List.rec (motive := fun _ => Bool) false (fun _ l _ => List.rec (motive := fun _ => Bool) false (fun _ l2 _ => List.rec (motive := fun _ => Bool) false (fun _ l3 _ => List.rec (motive := fun _ => Bool) false (fun v _ _ => loadI v (fun v => go D k cc rest ls (v :: st) fs T s u C)) l3) l2) l) ls
noncomputable def ldAO (j : Nat) : Option XF := Nat.rec (motive := fun _ => Option XF) (some x_ldA0) (fun j1 _ => Nat.rec (motive := fun _ => Option XF) (some x_ldA1) (fun _ _ => some x_loadAF) j1) j
noncomputable def ldIO (j : Nat) : Option XF := Nat.rec (motive := fun _ => Option XF) (some x_loadIF) (fun j1 _ => Nat.rec (motive := fun _ => Option XF) (some x_ldI1) (fun j2 _ => Nat.rec (motive := fun _ => Option XF) (some x_ldI2) (fun j3 _ => Nat.rec (motive := fun _ => Option XF) (some x_ldI3) (fun _ _ => some x_loadIF) j3) j2) j1) j
/-- does the same on e -/
def Same (f g : XF) (e : OE) : Prop := ∀ go D k cc rest ls st fs T s u C, f go e D k cc rest ls st fs T s u C = g go e D k cc rest ls st fs T s u C
def SameO (o : Option XF) (g : XF) (e : OE) : Prop := ∃ f, o = some f ∧ Same f g e
theorem same_eq {f g : XF} (e : OE) (h : f = g) : SameO (some f) g e := ⟨f, rfl, fun _ _ _ _ _ _ _ _ _ _ _ _ => by rw [h]⟩
theorem same_A {e : OE} : SameO (ldAO e.2.2.2.1) (x_load 2) e := by
  rw [← x_loadAF_eq]
  obtain ⟨pc, i, len, j, a2, a3⟩ := e
  rcases j with _ | _ | j
  · refine ⟨x_ldA0, rfl, fun go D k cc rest ls st fs T s u C => ?_⟩
    cases ls <;> rfl
  · refine ⟨x_ldA1, rfl, fun go D k cc rest ls st fs T s u C => ?_⟩
    rcases ls with _ | ⟨a, _ | ⟨b, l⟩⟩ <;> rfl
  · exact ⟨x_loadAF, rfl, fun _ _ _ _ _ _ _ _ _ _ _ _ => rfl⟩
theorem same_I {e : OE} : SameO (ldIO e.2.2.2.1) (x_load 0) e := by
  rw [← x_loadIF_eq]
  obtain ⟨pc, i, len, j, a2, a3⟩ := e
  rcases j with _ | _ | _ | _ | j
  · exact ⟨x_loadIF, rfl, fun _ _ _ _ _ _ _ _ _ _ _ _ => rfl⟩
  · refine ⟨x_ldI1, rfl, fun go D k cc rest ls st fs T s u C => ?_⟩
    rcases ls with _ | ⟨a, _ | ⟨b, l⟩⟩ <;> rfl
  · refine ⟨x_ldI2, rfl, fun go D k cc rest ls st fs T s u C => ?_⟩
    rcases ls with _ | ⟨a, _ | ⟨b, _ | ⟨c, l⟩⟩⟩ <;> rfl
  · refine ⟨x_ldI3, rfl, fun go D k cc rest ls st fs T s u C => ?_⟩
    rcases ls with _ | ⟨a, _ | ⟨b, _ | ⟨c, _ | ⟨d, l⟩⟩⟩⟩ <;> rfl
  · exact ⟨x_loadIF, rfl, fun _ _ _ _ _ _ _ _ _ _ _ _ => rfl⟩
noncomputable def opO (e : OE) : Option XF := Instr.rec (motive := fun _ => Option XF)
  (some (x_aald))
  (some (x_aast))
  (some (x_bad))
  (fun _ => ldAO e.2.2.2.1)
  (fun _ => ldAO e.2.2.2.1)
  (fun _ => some (x_newa 22))
  (some (x_bad))
  (some (x_alen))
  (fun _ => some (x_store 2))
  (fun _ => some (x_store 2))
  (some (x_bad))
  (some (x_ald (fun g => Nat.beq g 21)))
  (some (x_ast 21 2))
  (fun n => some (x_pushF n))
  (some (x_bad))
  (some (x_bad))
  (fun _ => some (x_bad))
  (some (x_bad))
  (some (x_bad))
  (some (x_bad))
  (some (x_bad))
  (some (x_bad))
  (some (x_bad))
  (fun _ => some (x_bad))
  (fun _ => some (x_bad))
  (some (x_bad))
  (fun _ => some (x_bad))
  (fun _ => some (x_bad))
  (some (x_bad))
  (some (x_bad))
  (some (x_bad))
  (some (x_bad))
  (fun _ => some (x_bad))
  (fun _ => some (x_bad))
  (some (x_bad))
  (some (x_dup))
  (some (x_bad))
  (some (x_bad))
  (some (x_dup2))
  (some (x_bad))
  (some (x_bad))
  (some (x_bad))
  (some (x_bad))
  (some (x_bad))
  (some (x_bad))
  (some (x_bad))
  (some (x_bad))
  (fun _ => some (x_bad))
  (fun _ => some (x_bad))
  (some (x_bad))
  (fun _ => some (x_bad))
  (fun _ => some (x_bad))
  (some (x_bad))
  (some (x_bad))
  (some (x_bad))
  (some (x_bad))
  (fun _ => some (x_bad))
  (fun _ => some (x_bad))
  (some (x_bad))
  (fun _ => some (x_getF))
  (fun _ => some (x_bad))
  (fun _ => some (x_goto))
  (fun _ => some (x_bad))
  (some (x_bad))
  (some (x_bad))
  (some (x_bad))
  (some (x_bad))
  (some (x_un i2l2))
  (some (x_bad))
  (some (x_binF addK (bin2 fadd)))
  (some (x_aldF okI))
  (some (x_bin and2))
  (some (x_astF 20 1))
  (fun n => some (x_pushF n))
  (some (x_binF divK (bin2z fdiv)))
  (fun _ _ => some (x_bad))
  (fun c _ => some (x_icmpF c))
  (fun c _ => some (x_ifF c))
  (fun _ => some (x_ifnonnull))
  (fun _ => some (x_ifnull))
  (fun _ n => some (x_iincF n))
  (fun _ => ldIO e.2.2.2.1)
  (fun _ => ldIO e.2.2.2.1)
  (some (x_binF mulK (bin2 fmul)))
  (some (x_un (un2 fun x => wI (-x))))
  (fun _ => some (x_bad))
  (fun _ => some (x_bad))
  (fun _ _ => some (x_bad))
  (fun _ => some (x_ini))
  (fun _ => some (x_sta))
  (fun _ => some (x_invF))
  (some (x_bad))
  (some (x_binF remK (bin2z Int.tmod)))
  (some (x_iretF))
  (some (x_bin (bin2 sHl)))
  (some (x_bin (bin2 sHr)))
  (fun _ => some (x_storeIF))
  (fun _ => some (x_storeIF))
  (some (x_binF subK (bin2 fsub)))
  (some (x_bin (bin2 sUr)))
  (some (x_bin (bin2 xOr)))
  (fun _ => some (x_bad))
  (fun _ => some (x_bad))
  (some (x_bad))
  (some (x_bad))
  (some (x_un l2i2))
  (some (x_bin (lbin2 fun x y => wL (x + y))))
  (some (x_bad))
  (some (x_bin land2))
  (some (x_bad))
  (some (x_lcmp))
  (fun l => some (x_push (cL ((l : Nat) : Int))))
  (fun _ => some (x_ldc))
  (fun _ => some (x_ldc))
  (fun _ => some (x_ldl))
  (some (x_bin (lbin2z fun x y => wL (x.tdiv y))))
  (fun _ => some (x_load 1))
  (fun _ => some (x_load 1))
  (some (x_bin lmul2))
  (some (x_un (lun2 fun x => wL (-x))))
  (fun _ _ => some (x_bad))
  (some (x_bin lor2))
  (some (x_bin (lbin2z Int.tmod)))
  (some (x_lret))
  (some (x_bin lshl2))
  (some (x_bad))
  (fun _ => some (x_lstore))
  (fun _ => some (x_lstore))
  (some (x_bin (lbin2 fun x y => wL (x - y))))
  (some (x_bad))
  (some (x_bad))
  (some (x_bad))
  (some (x_bad))
  (fun _ _ => some (x_bad))
  (fun _ => some (x_new))
  (fun a => some (x_newa (match a with | .int => 20 | .boolean => 21 | _ => 99)))
  (some (x_bad))
  (some (x_pop))
  (some (x_bad))
  (fun _ => some (x_putF))
  (fun _ => some (x_bad))
  (fun _ => some (x_bad))
  (some (x_vret))
  (some (x_bad))
  (some (x_bad))
  (fun n => some (x_pushF n))
  (some (x_bad))
  (fun a b c d => some (x_sw a b c d))
  e.2.1
theorem opO_same (e : OE) : SameO (opO e) (disp e.2.1) e := by
  obtain ⟨pc, i, len, a1, a2, a3⟩ := e
  cases i <;> first
    | exact same_A (e := (_, _, _, _, _, _))
    | exact same_I (e := (_, _, _, _, _, _))
    | exact same_eq _ (x_pushF_eq _)
    | exact same_eq _ addF_eq
    | exact same_eq _ subF_eq
    | exact same_eq _ mulF_eq
    | exact same_eq _ divF_eq
    | exact same_eq _ remF_eq
    | exact same_eq _ (x_aldF_eq _ _ okI_eq)
    | exact same_eq _ (x_icmpF_eq _)
    | exact same_eq _ (x_ifF_eq _)
    | exact same_eq _ (x_iincF_eq _)
    | exact same_eq _ x_storeIF_eq
    | exact same_eq _ x_getF_eq
    | exact same_eq _ x_putF_eq
    | exact same_eq _ (x_astF_eq _ _)
    | exact same_eq _ x_invF_eq
    | exact same_eq _ x_iretF_eq
    | exact same_eq _ rfl
abbrev XH : Type := GO → Nat → Nat → List OE → List VV → List VV → List FR → HT → Nat → Nat → CT → Bool
noncomputable def opC (code : List OE) : Option XH := List.rec (motive := fun _ => Option XH) none (fun e rest _ => Option.rec (motive := fun _ => Option XH) none (fun f => some (fun go D k cc ls st fs T s u C => f go e D k cc rest ls st fs T s u C)) (opO e)) code
noncomputable def seF (n : Nat) : GO := Nat.rec (motive := fun _ => GO) (fun _ _ _ _ _ _ _ _ _ _ _ => false) (fun _ ih D k cc code ls st fs T s u C => Option.rec (motive := fun _ => Bool) false (fun f => f ih D k cc ls st fs T s u C) (opC code)) n
theorem seF_eq : ∀ n : Nat, seF n = se n
  | 0 => rfl
  | n + 1 => by
    show (fun D k cc code ls st fs T s u C => Option.rec (motive := fun _ => Bool) false (fun f => f (seF n) D k cc ls st fs T s u C) (opC code) : GO) = stp (se n)
    rw [seF_eq n]
    funext D k cc code ls st fs T s u C
    cases code with
    | nil => rfl
    | cons e rest =>
      obtain ⟨f, h1, h2⟩ := opO_same e
      show Option.rec (motive := fun _ => Bool) false (fun f => f (se n) D k cc ls st fs T s u C) (Option.rec (motive := fun _ => Option XH) none (fun f => some (fun go D k cc ls st fs T s u C => f go e D k cc rest ls st fs T s u C)) (opO e)) = disp e.2.1 (se n) e D k cc rest ls st fs T s u C
      rw [h1]
      exact h2 (se n) D k cc rest ls st fs T s u C
noncomputable def seLF (n L : Nat) (p : Int × Int) : Bool := seF n 1200 lawK (ops lawK) (ops lawK) [cR 0, cN, cN, cN] [] [] (T0 L) 1 0 (C0 p)
theorem seLF_eq (n L : Nat) (p : Int × Int) : seLF n L p = seL n L p := by
  unfold seLF seL
  rw [seF_eq]
