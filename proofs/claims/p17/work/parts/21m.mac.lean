/-! loops that are done in one step -/
def le11 (v : VV) : Bool := match v with
  | .inl (.inl (.ofNat a)) => Nat.ble a 11
  | _ => false
def amOK (o : Option VV) : Bool := match o with
  | some v => le11 v
  | none => true
noncomputable def m_keep (dst src am ex : Nat) : XF := fun go _ D k cc _ ls st fs T s u C => match ls, st with
  | [.inl (.inr (.inr (some m))), _], [.inl (.inl (.ofNat 0))] => (match q7 T m with
    | some (kc, kn, F, _) => cond (Nat.beq kc 12 && Nat.beq kn 0) (match fget dst F, fget src F with
      | some (.inl (.inr (.inr (some da)))), some (.inl (.inr (.inr (some sa)))) => (match q7 T da, q7 T sa with
        | some (dc, dn, _, _), some (sc, sn, _, _) => cond ((Nat.beq dc 20 && Nat.beq dn 27768) && ((Nat.beq sc 20 && Nat.beq sn 2314) && amOK (fget am F))) (bsetK 7 T da (20, 27768, [none], 0) (fun T2 => go D k cc (dropN ex cc) [cR m, ci 2314] [] fs T2 s u C)) false
        | _, _ => false)
      | _, _ => false) false
    | none => false)
  | _, _ => false
noncomputable def m_copy (dst src li ex : Nat) : XF := fun go _ D k cc _ ls st fs T s u C => match lget 0 ls, st with
  | .inl (.inr (.inr (some m))), [.inl (.inl (.ofNat 0))] => (match q7 T m with
    | some (kc, kn, F, _) => cond (Nat.beq kc 12 && Nat.beq kn 0) (match fget dst F, fget src F with
      | some (.inl (.inr (.inr (some da)))), some (.inl (.inr (.inr (some sa)))) => (match q7 T da, q7 T sa with
        | some (dc, dn, _, _), some (sc, sn, G, A) => cond ((Nat.beq dc 20 && Nat.beq dn 2314) && ((Nat.beq sc 20 && Nat.beq sn 2314) && not (Nat.beq da sa))) (klK li ls (fun l1 => lsetK li l1 (ci 2314) (fun l2 => bsetK 7 T da (20, 2314, G, A) (fun T2 => go D k cc (dropN ex cc) l2 [] fs T2 s u C)))) false
        | _, _ => false)
      | _, _ => false) false
    | none => false)
  | _, _ => false
/-- the cells of these places taken away: (from, how many) -/
def pclrs : List (Nat × Nat) → Nat → Nat
  | [], A => A
  | (lo, n) :: r, A => pclrs r (pclr A lo n)
noncomputable def m_clr (src ex : Nat) (rg : List (Nat × Nat)) : XF := fun go _ D k cc _ ls st fs T s u C => match ls, st with
  | [.inl (.inr (.inr (some m))), _], [.inl (.inl (.ofNat 0))] => (match q7 T m with
    | some (kc, kn, F, _) => cond (Nat.beq kc 12 && Nat.beq kn 0) (match fget src F with
      | some (.inl (.inr (.inr (some sa)))) => (match q7 T sa with
        | some (sc, sn, G, A) => cond (Nat.beq sc 20 && Nat.beq sn 2314) (fN (pclrs rg A) (fun A2 => bsetK 7 T sa (20, 2314, G, A2) (fun T2 => go D k cc (dropN ex cc) [cR m, ci 144] [] fs T2 s u C))) false
        | _ => false)
      | _ => false) false
    | none => false)
  | _, _ => false
noncomputable def m_rst3 (s1 s2 s3 v1 v2 v3 N ex : Nat) : XF := fun go _ D k cc _ ls st fs T s u C => match ls, st with
  | [.inl (.inr (.inr (some m))), w1, w2, _], [.inl (.inl (.ofNat 0))] => (match q7 T m with
    | some (kc, kn, F, _) => cond ((Nat.beq kc 2 && Nat.beq kn 0) && Nat.beq (ty w2) 0) (match fget s1 F, fget s2 F, fget s3 F with
      | some (.inl (.inr (.inr (some p)))), some (.inl (.inr (.inr (some g)))), some (.inl (.inr (.inr (some q)))) => (match q7 T p, q7 T g, q7 T q with
        | some (pc, pn, _, _), some (gc, gn, _, _), some (qc, qn, _, _) => cond (((Nat.beq pc 20 && Nat.beq pn N) && (Nat.beq gc 20 && Nat.beq gn N)) && ((Nat.beq qc 21 && Nat.beq qn N) && not (Nat.beq p g)))
            (fN (pfill N v1) (fun A1 => fN (pfill N v2) (fun A2 => fN (pfill N v3) (fun A3 => bsetK 7 T p (20, N, [], A1) (fun T1 => bsetK 7 T1 g (20, N, [], A2) (fun T2 => bsetK 7 T2 q (21, N, [], A3) (fun T3 => go D k cc (dropN ex cc) [cR m, w1, w2, ci (Int.ofNat N)] [] fs T3 s u C))))))) false
        | _, _, _ => false)
      | _, _, _ => false) false
    | none => false)
  | _, _ => false
noncomputable def m_rst1 (s1 kc1 v1 N ex : Nat) : XF := fun go _ D k cc _ ls st fs T s u C => match ls, st with
  | [.inl (.inr (.inr (some m))), w1, w2, _], [.inl (.inl (.ofNat 0))] => (match q7 T m with
    | some (kc, kn, F, _) => cond ((Nat.beq kc 2 && Nat.beq kn 0) && Nat.beq (ty w2) 0) (match fget s1 F with
      | some (.inl (.inr (.inr (some p)))) => (match q7 T p with
        | some (pc, pn, _, _) => cond (Nat.beq pc kc1 && Nat.beq pn N)
            (fN (pfill N v1) (fun A1 => bsetK 7 T p (kc1, N, [], A1) (fun T1 => go D k cc (dropN ex cc) [cR m, w1, w2, ci (Int.ofNat N)] [] fs T1 s u C))) false
        | _ => false)
      | _ => false) false
    | none => false)
  | _, _ => false
noncomputable def m_fill (ex : Nat) : XF := fun go _ D k cc _ ls st fs T s u C => match ls, st with
  | [.inl (.inr (.inr (some a))), v, .inl (.inl (.ofNat 0)), _], [.inl (.inl (.ofNat n))] => (match q7 T a with
    | some (kc, kn, _, _) => cond ((Nat.beq kc 20 && Nat.beq kn n) && (Nat.ble n 4096 && Nat.beq (ty v) 0)) (match enc v with
      | some c => fN (pfill n c) (fun A1 => bsetK 7 T a (20, n, [], A1) (fun T1 => go D k cc (dropN ex cc) [cR a, v, ci (Int.ofNat n), ci (Int.ofNat n)] [] fs T1 s u C))
      | none => false) false
    | none => false)
  | _, _ => false
noncomputable def x_mac : XF := fun go e D k cc rest ls st fs T s u C => match e.2.2.2.2.1 with
  | 1 => m_keep 6 1 7 44 go e D k cc rest ls st fs T s u C
  | 2 => m_copy 2 1 1 18 go e D k cc rest ls st fs T s u C
  | 3 => m_copy 2 1 3 30 go e D k cc rest ls st fs T s u C
  | 4 => m_copy 1 2 4 78 go e D k cc rest ls st fs T s u C
  | 5 => m_copy 2 1 2 24 go e D k cc rest ls st fs T s u C
  | 6 => m_copy 1 2 3 53 go e D k cc rest ls st fs T s u C
  | 7 => m_clr 1 49 [(874, 144), (442, 144), (586, 144), (730, 144), (2026, 144), (2170, 144)] go e D k cc rest ls st fs T s u C
  | 8 => m_rst3 2 3 4 0 50 0 144 28 go e D k cc rest ls st fs T s u C
  | 9 => m_rst1 5 21 0 288 40 go e D k cc rest ls st fs T s u C
  | 10 => m_fill 14 go e D k cc rest ls st fs T s u C
  | _ => false
/-- where they stand -/
def macB (k pc id : Nat) : Bool := match id with
  | 0 => true
  | 7 => Nat.beq k 187 && Nat.beq pc 1
  | 8 => Nat.beq k 8 && Nat.beq pc 11
  | 9 => Nat.beq k 8 && Nat.beq pc 48
  | 10 => Nat.beq k 289 && Nat.beq pc 4
  | 1 => Nat.beq k 186 && Nat.beq pc 47
  | 2 => Nat.beq k 245 && Nat.beq pc 6
  | 3 => Nat.beq k 279 && Nat.beq pc 26
  | 4 => Nat.beq k 279 && Nat.beq pc 108
  | 5 => Nat.beq k 280 && Nat.beq pc 16
  | 6 => Nat.beq k 280 && Nat.beq pc 65
  | _ => false
