/-! loops that are done in one step -/
def le11 (v : VV) : Bool := match v with
  | .inl (.inl (.ofNat a)) => Nat.ble a 11
  | _ => false
def amOK (o : Option VV) (dv : VV) : Bool := match o with
  | some v => le11 v
  | none => le11 dv
noncomputable def m_keep (dst src am ex : Nat) : XF := fun go _ D k cc _ ls st fs T s u C => match ls, st with
  | [.inl (.inr (.inr (some m))), _], [.inl (.inl (.ofNat 0))] => (match bget 7 T m with
    | some (kc, kn, dv, tr) => cond (Nat.beq kc 12 && Nat.beq kn 0) (match bget 12 tr dst, bget 12 tr src with
      | some (.inl (.inr (.inr (some da)))), some (.inl (.inr (.inr (some sa)))) => (match bget 7 T da, bget 7 T sa with
        | some (dc, dn, _, _), some (sc, sn, _, _) => cond ((Nat.beq dc 20 && Nat.beq dn 27768) && ((Nat.beq sc 20 && Nat.beq sn 2314) && amOK (bget 12 tr am) dv)) (bsetK 7 T da (20, 27768, aI, bN 12) (fun T2 => go D k cc (dropN ex cc) [cR m, ci 2314] [] fs T2 s u C)) false
        | _, _ => false)
      | _, _ => false) false
    | none => false)
  | _, _ => false
noncomputable def m_copy (dst src li ex : Nat) : XF := fun go _ D k cc _ ls st fs T s u C => match lget 0 ls, st with
  | .inl (.inr (.inr (some m))), [.inl (.inl (.ofNat 0))] => (match bget 7 T m with
    | some (kc, kn, _, tr) => cond (Nat.beq kc 12 && Nat.beq kn 0) (match bget 12 tr dst, bget 12 tr src with
      | some (.inl (.inr (.inr (some da)))), some (.inl (.inr (.inr (some sa)))) => (match bget 7 T da, bget 7 T sa with
        | some (dc, dn, _, _), some (sc, sn, sv, sr) => cond ((Nat.beq dc 20 && Nat.beq dn 2314) && ((Nat.beq sc 20 && Nat.beq sn 2314) && not (Nat.beq da sa))) (klK li ls (fun l1 => lsetK li l1 (ci 2314) (fun l2 => bsetK 7 T da (20, 2314, sv, sr) (fun T2 => go D k cc (dropN ex cc) l2 [] fs T2 s u C)))) false
        | _, _ => false)
      | _, _ => false) false
    | none => false)
  | _, _ => false
noncomputable def x_mac : XF := fun go e D k cc rest ls st fs T s u C => match e.2.2.2.2.1 with
  | 1 => m_keep 6 1 7 44 go e D k cc rest ls st fs T s u C
  | 2 => m_copy 2 1 1 18 go e D k cc rest ls st fs T s u C
  | 3 => m_copy 2 1 3 30 go e D k cc rest ls st fs T s u C
  | 4 => m_copy 1 2 4 78 go e D k cc rest ls st fs T s u C
  | 5 => m_copy 2 1 2 24 go e D k cc rest ls st fs T s u C
  | 6 => m_copy 1 2 3 53 go e D k cc rest ls st fs T s u C
  | _ => false
/-- where they stand -/
def macB (k pc id : Nat) : Bool := match id with
  | 0 => true
  | 1 => Nat.beq k 186 && Nat.beq pc 47
  | 2 => Nat.beq k 245 && Nat.beq pc 6
  | 3 => Nat.beq k 279 && Nat.beq pc 26
  | 4 => Nat.beq k 279 && Nat.beq pc 108
  | 5 => Nat.beq k 280 && Nat.beq pc 16
  | 6 => Nat.beq k 280 && Nat.beq pc 65
  | _ => false
