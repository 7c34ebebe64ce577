/-! the evaluator's instructions, on -/
noncomputable def x_store (t : Nat) : XF := fun go e D k cc rest ls st fs T s u C => cond (Nat.beq e.2.2.2.2.1 0) (match st with
  | v :: r => fL t v (fun v => klK e.2.2.2.1 ls (fun l1 => lsetK e.2.2.2.1 l1 v (fun l2 => go D k cc rest l2 r fs T s u C)))
  | [] => false) (x_mac go e D k cc rest ls st fs T s u C)
noncomputable def x_lstore : XF := fun go e D k cc rest ls st fs T s u C => match st with
  | v :: r => fL 1 v (fun v => klK e.2.2.2.1 ls (fun l1 => lsetK e.2.2.2.1 l1 v (fun l2 => lsetK (Nat.succ e.2.2.2.1) l2 cN (fun l3 => go D k cc rest l3 r fs T s u C))))
  | [] => false
noncomputable def x_iinc (n : Int) : XF := fun go e D k cc rest ls st fs T s u C => oV (un2 (fun x => fadd x n) (lget e.2.2.2.1 ls)) (fun v => klK e.2.2.2.1 ls (fun l1 => lsetK e.2.2.2.1 l1 v (fun l2 => go D k cc rest l2 st fs T s u C)))
noncomputable def x_bin (g : VV → VV → Option VV) : XF := fun go _ D k cc rest ls st fs T s u C => match st with
  | y :: x :: t => oV (g y x) (fun v => go D k cc rest ls (v :: t) fs T s u C)
  | _ => false
noncomputable def x_lcmp : XF := fun go _ D k cc rest ls st fs T s u C => match st with
  | y :: x :: t => oV (lcm2 C y x) (fun v => go D k cc rest ls (v :: t) fs T s u C)
  | _ => false
noncomputable def x_un (g : VV → Option VV) : XF := fun go _ D k cc rest ls st fs T s u C => match st with
  | x :: t => oV (g x) (fun v => go D k cc rest ls (v :: t) fs T s u C)
  | _ => false
noncomputable def x_dup : XF := fun go _ D k cc rest ls st fs T s u C => match st with
  | v :: t => cond (Nat.beq (ty v) 1) false (go D k cc rest ls (v :: v :: t) fs T s u C)
  | _ => false
noncomputable def x_dup2 : XF := fun go _ D k cc rest ls st fs T s u C => match st with
  | v :: w :: t => cond (Nat.beq (ty v) 1) false (cond (Nat.beq (ty w) 1) false (go D k cc rest ls (v :: w :: v :: w :: t) fs T s u C))
  | _ => false
noncomputable def x_pop : XF := fun go _ D k cc rest ls st fs T s u C => match st with
  | v :: t => cond (Nat.beq (ty v) 1) false (go D k cc rest ls t fs T s u C)
  | _ => false
noncomputable def x_icmp (c : Jvm.ClassFile.Cond) : XF := fun go e D k cc rest ls st fs T s u C => match st with
  | y :: x :: t => x_br c C x y (fun C1 => go D k cc (dropN e.2.2.2.1 cc) ls t fs T s u C1) (fun C1 => go D k cc rest ls t fs T s u C1)
  | _ => false
noncomputable def x_if (c : Jvm.ClassFile.Cond) : XF := fun go e D k cc rest ls st fs T s u C => match st with
  | x :: t => x_br c C x (ci 0) (fun C1 => go D k cc (dropN e.2.2.2.1 cc) ls t fs T s u C1) (fun C1 => go D k cc rest ls t fs T s u C1)
  | _ => false
noncomputable def x_goto : XF := fun go e D k cc _ ls st fs T s u C => go D k cc (dropN e.2.2.2.1 cc) ls st fs T s u C
noncomputable def x_ifnull : XF := fun go e D k cc rest ls st fs T s u C => match st with
  | .inl (.inr (.inr none)) :: t => go D k cc (dropN e.2.2.2.1 cc) ls t fs T s u C
  | .inl (.inr (.inr (some _))) :: t => go D k cc rest ls t fs T s u C
  | _ => false
noncomputable def x_ifnonnull : XF := fun go e D k cc rest ls st fs T s u C => match st with
  | .inl (.inr (.inr none)) :: t => go D k cc rest ls t fs T s u C
  | .inl (.inr (.inr (some _))) :: t => go D k cc (dropN e.2.2.2.1 cc) ls t fs T s u C
  | _ => false
/-- where a switch goes on from -/
def swT (cc : List OE) (pc : Nat) (df lo hi : Int) (offs : Array Int) (x : Int) : List OE :=
  cond (ltB x lo || ltB hi x) (findP (Int.toNat ((pc : Int) + df)) cc) (findP (Int.toNat ((pc : Int) + offs.toList.getD (Int.toNat (x - lo)) (-1))) cc)
def swOK (pc : Nat) (df lo hi : Int) (offs : Array Int) (x : Int) : Bool :=
  cond (ltB x lo || ltB hi x) (not (ltB ((pc : Int) + df) 0)) (Nat.ble (Nat.succ (Int.toNat (x - lo))) offs.toList.length && not (ltB ((pc : Int) + offs.toList.getD (Int.toNat (x - lo)) (-1)) 0))
noncomputable def x_sw (df lo hi : Int) (offs : Array Int) : XF := fun go e D k cc _ ls st fs T s u C => match st with
  | .inl (.inl x) :: t => swOK e.1 df lo hi offs x && go D k cc (swT cc e.1 df lo hi offs x) ls t fs T s u C
  | .inr (2, i, _) :: t => cond (ltB (bnd C i.toNat).2 lo || ltB hi (bnd C i.toNat).1)
      (not (ltB ((e.1 : Int) + df) 0) && go D k cc (findP (Int.toNat ((e.1 : Int) + df)) cc) ls t fs T s u C)
      ((List.range ((bnd C i.toNat).2 + 1 - (bnd C i.toNat).1).toNat).all fun j : Nat => fI ((bnd C i.toNat).1 + (j : Int)) fun x =>
        swOK e.1 df lo hi offs x && (bx (cond (eqB i 6) (spl x) []) (C.set i.toNat (x, x))).all fun C1 => go D k cc (swT cc e.1 df lo hi offs x) ls t fs T s u C1)
  | _ => false
noncomputable def x_get : XF := fun go e D k cc rest ls st fs T s u C => match st with
  | .inl (.inr (.inr (some a))) :: t => (match q7 T a with
    | some (kc, kn, F, _) => cond (Nat.beq kc e.2.2.2.2.1 && Nat.beq kn 0) (match fget e.2.2.2.2.2 F with
      | some w => cond (Nat.beq e.2.2.2.1 3) (cond (Nat.beq (ty w) 2) (go D k cc rest ls (w :: t) fs T s u C) false) (cond (Nat.beq (ty w) 0) (go D k cc rest ls (w :: t) fs T s u C) false)
      | none => cond (Nat.beq e.2.2.2.1 3) (go D k cc rest ls (cN :: t) fs T s u C) (go D k cc rest ls (ci 0 :: t) fs T s u C)) false
    | none => false)
  | _ => false
/-- may lie in a place of the kind g (1 int, 2 boolean, 3 a place) -/
def okG (g : Nat) (v : VV) : Bool := match v with
  | .inl (.inl x) => cond (Nat.beq g 1) true (cond (Nat.beq g 2) (eqB x 0 || eqB x 1) false)
  | .inl (.inr (.inr (some _))) => Nat.beq g 3
  | .inl _ => false
  | .inr (t, _, _) => Nat.beq g 1 && Nat.beq (tyT t) 0
noncomputable def x_put : XF := fun go e D k cc rest ls st fs T s u C => match st with
  | v :: .inl (.inr (.inr (some a))) :: t => (match q7 T a with
    | some (kc, kn, F, A) => cond (Nat.beq kc e.2.2.2.2.1 && (Nat.beq kn 0 && okG e.2.2.2.1 v)) (fsetK e.2.2.2.2.2 F v (fun F2 => bsetK 7 T a (kc, kn, F2, A) (fun T2 => go D k cc rest ls t fs T2 s u C))) false
    | none => false)
  | _ => false
/-- a number of which the bounds tell what it is -/
noncomputable def nrmK (C : CT) (w : VV) (k : VV → Bool) : Bool := match w with
  | .inr (2, i, z) => cond (eqB (bnd C i.toNat).1 (bnd C i.toNat).2) (fI (bnd C i.toNat).1 (fun x => k (ci x))) (k (.inr (2, i, z)))
  | w => k w
/-- reads a row of numbers -/
noncomputable def x_ald (ok : Nat → Bool) : XF := fun go _ D k cc rest ls st fs T s u C => match st with
  | .inl (.inl (.ofNat n)) :: .inl (.inr (.inr (some a))) :: t => (match q7 T a with
    | some (kc, kn, F, A) => cond (ok kc && Nat.ble (Nat.succ n) kn) (match F with
      | [] => fN (pget A n) (fun c => nrmK C (dec c) (fun w => go D k cc rest ls (w :: t) fs T s u C))
      | _ :: _ => go D k cc rest ls (aI :: t) fs T s u C) false
    | none => false)
  | _ => false
noncomputable def x_aald : XF := fun go _ D k cc rest ls st fs T s u C => match st with
  | .inl (.inl (.ofNat n)) :: .inl (.inr (.inr (some a))) :: t => (match q7 T a with
    | some (kc, kn, F, _) => cond (Nat.beq kc 22 && Nat.ble (Nat.succ n) kn) (match fget n F with
      | some w => cond (Nat.beq (ty w) 2) (go D k cc rest ls (w :: t) fs T s u C) false
      | none => go D k cc rest ls (cN :: t) fs T s u C) false
    | none => false)
  | _ => false
/-- writes a row of the kind kc -/
noncomputable def x_ast (kc0 g : Nat) : XF := fun go _ D k cc rest ls st fs T s u C => match st with
  | v :: .inl (.inl (.ofNat n)) :: .inl (.inr (.inr (some a))) :: t => (match q7 T a with
    | some (kc, kn, F, A) => cond (Nat.beq kc kc0 && (Nat.ble (Nat.succ n) kn && okG g v)) (match F with
      | [] => (match enc v with
        | some c => fN (pset A n c) (fun A2 => bsetK 7 T a (kc, kn, [], A2) (fun T2 => go D k cc rest ls t fs T2 s u C))
        | none => false)
      | _ :: _ => false) false
    | none => false)
  | _ => false
noncomputable def x_aast : XF := fun go _ D k cc rest ls st fs T s u C => match st with
  | .inl (.inr (.inr (some x))) :: .inl (.inl (.ofNat n)) :: .inl (.inr (.inr (some a))) :: t => (match q7 T a, q7 T x with
    | some (kc, kn, F, A), some (xc, xn, _, _) => cond (Nat.beq kc 22 && (Nat.ble (Nat.succ n) kn && (Nat.beq xc 10 && Nat.beq xn 0))) (fsetK n F (cR x) (fun F2 => bsetK 7 T a (kc, kn, F2, A) (fun T2 => go D k cc rest ls t fs T2 s u C))) false
    | _, _ => false)
  | _ => false
noncomputable def x_alen : XF := fun go _ D k cc rest ls st fs T s u C => match st with
  | .inl (.inr (.inr (some a))) :: t => (match q7 T a with
    | some (kc, kn, _, _) => cond (Nat.ble 20 kc && Nat.ble kc 23) (go D k cc rest ls (ci (Int.ofNat kn) :: t) fs T s u C) false
    | none => false)
  | _ => false
noncomputable def x_newa (kc : Nat) : XF := fun go _ D k cc rest ls st fs T s u C => match st with
  | .inl (.inl (.ofNat n)) :: t => cond (Nat.ble n 100000 && Nat.ble (Nat.succ s) 128) (bsetK 7 T s (kc, n, [], 0) (fun T2 => fN s (fun s1 => fN (Nat.add u n) (fun u2 => go D k cc rest ls (cR s1 :: t) fs T2 (Nat.succ s1) u2 C)))) false
  | _ => false
noncomputable def x_new : XF := fun go e D k cc rest ls st fs T s u C => cond (Nat.ble (Nat.succ s) 128) (bsetK 7 T s (e.2.2.2.2.1, 0, [], 0) (fun T2 => fN s (fun s1 => fN (Nat.add u e.2.2.2.2.2) (fun u2 => go D k cc rest ls (cR s1 :: st) fs T2 (Nat.succ s1) u2 C)))) false
/-- calls y with the arguments vs, t what is left of the stack -/
noncomputable def callR (go : GO) (y : Nat) (q : List OE × Nat × Nat) (vs t : List VV) (D k : Nat) (cc rest : List OE) (ls : List VV) (fs : List FR) (T : HT) (s u : Nat) (C : CT) : Bool := match D, rest with
  | D2 + 1, _ :: _ => entK vs q.2.1 (fun l2 => go D2 y q.1 q.1 l2 [] ((k, cc, rest, ls, t) :: fs) T s u C)
  | _, _ => false
noncomputable def callK (go : GO) (y : Nat) (vs t : List VV) (D k : Nat) (cc rest : List OE) (ls : List VV) (fs : List FR) (T : HT) (s u : Nat) (C : CT) : Bool :=
  cond (Nat.ble (wdsV t) 8) (match q9 mtT y with
    | some q => callR go y q vs t D k cc rest ls fs T s u C
    | none => false) false
noncomputable def wrapK (t0 : Nat) (go : GO) (vs t : List VV) (D k : Nat) (cc rest : List OE) (ls : List VV) (fs : List FR) (T : HT) (s u : Nat) (C : CT) : Bool :=
  cond (Nat.ble (wdsV t) 8 && Nat.ble 1 D) (match vs with
    | [v] => oV (wrp2 t0 v) (fun w => go D k cc rest ls (w :: t) fs T s u C)
    | _ => false) false
noncomputable def invK (go : GO) (y a : Nat) (vs t2 : List VV) (D k : Nat) (cc rest : List OE) (ls : List VV) (fs : List FR) (T : HT) (s u : Nat) (C : CT) : Bool :=
  match q7 T a with
  | some (kc, kn, _, _) => (match q9 mtT y with
    | some q => cond (Nat.beq kc q.2.2 && Nat.beq kn 0) (cond (Nat.beq y wrM && not (vs.all isC)) (wrapK 1 go vs t2 D k cc rest ls fs T s u C)
        (cond (Nat.ble (wdsV t2) 8) (callR go y q (cR a :: vs) t2 D k cc rest ls fs T s u C) false)) false
    | none => false)
  | none => false
noncomputable def x_inv : XF := fun go e D k cc rest ls st fs T s u C => popN e.2.2.2.2.2 st [] (fun vs t => match t with
  | .inl (.inr (.inr (some a))) :: t2 => invK go e.2.2.2.2.1 a vs t2 D k cc rest ls fs T s u C
  | _ => false)
noncomputable def x_obj : XF := fun go _ D k cc rest ls st fs T s u C => match st with
  | .inl (.inr (.inr (some _))) :: t => cond (Nat.ble (wdsV t) 8) (go D k cc rest ls t fs T s u C) false
  | _ => false
noncomputable def x_ini2 : XF := fun go e D k cc rest ls st fs T s u C => popN e.2.2.2.2.2 st [] (fun vs t => match t with
  | .inl (.inr (.inr (some a))) :: t2 => callK go e.2.2.2.2.1 (cR a :: vs) t2 D k cc rest ls fs T s u C
  | _ => false)
noncomputable def x_ini : XF := fun go e D k cc rest ls st fs T s u C => cond (Nat.beq e.2.2.2.1 7) (x_obj go e D k cc rest ls st fs T s u C) (x_ini2 go e D k cc rest ls st fs T s u C)
noncomputable def x_stc : XF := fun go e D k cc rest ls st fs T s u C => popN e.2.2.2.2.2 st [] (fun vs t => cond (Nat.beq e.2.2.2.2.1 wrC && not (vs.all isC)) (wrapK 0 go vs t D k cc rest ls fs T s u C) (callK go e.2.2.2.2.1 vs t D k cc rest ls fs T s u C))
noncomputable def x_cpy : XF := fun go _ D k cc rest ls st fs T s u C => match st with
  | .inl (.inl (.ofNat n)) :: .inl (.inl (.ofNat 0)) :: .inl (.inr (.inr (some b))) :: .inl (.inl (.ofNat 0)) :: .inl (.inr (.inr (some a))) :: t => (match q7 T a, q7 T b with
    | some (ka, na, F, A), some (kb, nb, _, _) => cond (Nat.ble (wdsV t) 8 && ((Nat.beq ka 20 || Nat.beq ka 21) && (Nat.beq ka kb && (Nat.beq n na && Nat.beq n nb)))) (bsetK 7 T b (kb, nb, F, A) (fun T2 => go D k cc rest ls t fs T2 s u C)) false
    | _, _ => false)
  | _ => false
noncomputable def x_mm : XF := fun go e D k cc rest ls st fs T s u C => match st with
  | y :: x :: t => cond (Nat.ble (wdsV t) 8) (oV (bin2 (fun a b => cond (Nat.beq e.2.2.2.1 8) (mxI a b) (mnI a b)) y x) (fun v => go D k cc rest ls (v :: t) fs T s u C)) false
  | _ => false
noncomputable def x_abs : XF := fun go _ D k cc rest ls st fs T s u C => match st with
  | x :: t => cond (Nat.ble (wdsV t) 8) (oV (un2 abI x) (fun v => go D k cc rest ls (v :: t) fs T s u C)) false
  | _ => false
noncomputable def x_absl : XF := fun go _ D k cc rest ls st fs T s u C => match st with
  | x :: t => cond (Nat.ble (wdsV t) 8) (oV (lun2 abL x) (fun v => go D k cc rest ls (v :: t) fs T s u C)) false
  | _ => false
noncomputable def x_sta : XF := fun go e D k cc rest ls st fs T s u C => cond (Nat.beq e.2.2.2.1 4) (x_stc go e D k cc rest ls st fs T s u C)
  (cond (Nat.beq e.2.2.2.1 6) (x_cpy go e D k cc rest ls st fs T s u C)
    (cond (Nat.ble 8 e.2.2.2.1 && Nat.ble e.2.2.2.1 9) (x_mm go e D k cc rest ls st fs T s u C)
      (cond (Nat.beq e.2.2.2.1 10) (x_abs go e D k cc rest ls st fs T s u C)
        (cond (Nat.beq e.2.2.2.1 11) (x_absl go e D k cc rest ls st fs T s u C) false))))
noncomputable def x_iret : XF := fun go e D _ _ _ _ st fs T s u C => match st with
  | [v] => cond (okG e.2.2.2.1 v) (match fs with
    | (k2, cc2, c2, ls2, st2) :: fs2 => go (Nat.succ D) k2 cc2 c2 ls2 (v :: st2) fs2 T s u C
    | [] => (match v with
      | .inl (.inl x) => eqB x 1 && (Nat.ble s 600001 && Nat.ble u 7302250)
      | _ => false)) false
  | _ => false
noncomputable def x_lret : XF := fun go _ D _ _ _ _ st fs T s u C => match st with
  | [v] => cond (Nat.beq (ty v) 1) (match fs with
    | (k2, cc2, c2, ls2, st2) :: fs2 => go (Nat.succ D) k2 cc2 c2 ls2 (v :: st2) fs2 T s u C
    | [] => false) false
  | _ => false
noncomputable def x_vret : XF := fun go _ D _ _ _ _ st fs T s u C => match st with
  | [] => (match fs with
    | (k2, cc2, c2, ls2, st2) :: fs2 => go (Nat.succ D) k2 cc2 c2 ls2 st2 fs2 T s u C
    | [] => false)
  | _ => false
