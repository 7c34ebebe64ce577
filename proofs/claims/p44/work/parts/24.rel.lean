/-! the rows of the table -/
theorem beq_iff {a b : Nat} : Nat.beq a b = true ↔ a = b := by rw [Nat.beq_eq]
/-- what each row of the table must be -/
noncomputable def inB (n : Int) : Bool := not (ltB n (-2147483648)) && ltB n 2147483648
noncomputable def tgB (pc : Nat) (off : Int) (l : List OE) : Bool := match l with
  | [] => false
  | e :: _ => decide ((pc : Int) + off = (e.1 : Int))
noncomputable def rowA (k pc : Nat) (i : Instr) (len a1 a2 a3 : Nat) (cc : List OE) : Bool := match i with
  | .iconst n => Nat.beq len 1 && inB n
  | .bipush n => Nat.beq len 2 && (inB n && decide ((Int8.ofInt n).toInt32 = Int32.ofInt n))
  | .sipush n => Nat.beq len 3 && (inB n && decide ((Int16.ofInt n).toInt32 = Int32.ofInt n))
  | .ldc idx => Nat.beq len 2 && (decide (cst (mcls k) idx = some (eInt (pc, i, len, a1, a2, a3))) && inB (eInt (pc, i, len, a1, a2, a3)))
  | .ldc_w idx => Nat.beq len 3 && (decide (cst (mcls k) idx = some (eInt (pc, i, len, a1, a2, a3))) && inB (eInt (pc, i, len, a1, a2, a3)))
  | .ldc2_w idx => Nat.beq len 3 && (decide (csl (mcls k) idx = some (eInt (pc, i, len, a1, a2, a3))) && (not (ltB (eInt (pc, i, len, a1, a2, a3)) (-9223372036854775808)) && ltB (eInt (pc, i, len, a1, a2, a3)) 9223372036854775808))
  | .iload j => Nat.beq len 2 && Nat.beq j a1
  | .lload j => Nat.beq len 2 && Nat.beq j a1
  | .aload j => Nat.beq len 2 && Nat.beq j a1
  | .istore j => Nat.beq len 2 && (Nat.beq j a1 && macB k pc a2)
  | .lstore j => Nat.beq len 2 && Nat.beq j a1
  | .astore j => Nat.beq len 2 && (Nat.beq j a1 && macB k pc a2)
  | .iload_n j => Nat.beq len 1 && Nat.beq j.1 a1
  | .lload_n j => Nat.beq len 1 && Nat.beq j.1 a1
  | .aload_n j => Nat.beq len 1 && Nat.beq j.1 a1
  | .istore_n j => Nat.beq len 1 && (Nat.beq j.1 a1 && macB k pc a2)
  | .lstore_n j => Nat.beq len 1 && Nat.beq j.1 a1
  | .astore_n j => Nat.beq len 1 && (Nat.beq j.1 a1 && macB k pc a2)
  | .iinc j _ => Nat.beq len 3 && Nat.beq j a1
  | .if_icmp _ off => Nat.beq len 3 && tgB pc off (dropN a1 cc)
  | .ifCond _ off => Nat.beq len 3 && tgB pc off (dropN a1 cc)
  | .goto off => Nat.beq len 3 && tgB pc off (dropN a1 cc)
  | .ifnull off => Nat.beq len 3 && tgB pc off (dropN a1 cc)
  | .ifnonnull off => Nat.beq len 3 && tgB pc off (dropN a1 cc)
  | .tableswitch _ _ _ _ => true
  | .getfield idx => Nat.beq len 3 && (decide (pool (mcls k) idx = some (a1, a2, a3)) && (Nat.ble a3 63 && (Nat.ble (Nat.succ a2) 20 && (Nat.ble 1 a1 && Nat.ble a1 3))))
  | .putfield idx => Nat.beq len 3 && (decide (pool (mcls k) idx = some (a1, a2, a3)) && (Nat.ble a3 63 && (Nat.ble (Nat.succ a2) 20 && (decide (fn a2 a3 = false) || decide ((mname k).name = "<init>" ∧ mcls k = a2)))))
  | .newarray t => Nat.beq len 2 && decide (t = .int ∨ t = .boolean)
  | .anewarray idx => Nat.beq len 3 && decide (pool (mcls k) idx = some (5, 10, 3))
  | .new idx => Nat.beq len 3 && (decide (pool (mcls k) idx = some (5, a2, a3)) && Nat.ble (Nat.succ a2) 20)
  | .invokevirtual idx => Nat.beq len 3 && (decide (pool (mcls k) idx = some (4, a2, a3)) && (Nat.ble (Nat.succ a2) nT && (decide (mstat a2 = false) && decide (((mname a2).name == "<init>") = false))))
  | .invokestatic idx => Nat.beq len 3 && (decide (pool (mcls k) idx = some (a1, a2, a3)) && cond (Nat.beq a1 4) (Nat.ble (Nat.succ a2) nT && decide (mstat a2 = true)) (Nat.beq a2 0 && Nat.beq a3 0))
  | .invokespecial idx => Nat.beq len 3 && (decide (pool (mcls k) idx = some (a1, a2, a3)) && cond (Nat.beq a1 7) (Nat.beq a2 0 && Nat.beq a3 0) (Nat.beq a1 4 && (Nat.ble (Nat.succ a2) nT && (decide (mstat a2 = false) && (decide (((mname a2).name == "<init>") = true) && decide (mret a2 = none))))))
  | .ireturn => Nat.beq len 1 && (Nat.beq a1 1 && decide (mret k = some .int) || Nat.beq a1 2 && decide (mret k = some .boolean))
  | .lreturn => Nat.beq len 1 && decide (mret k = some .long)
  | .return_ => Nat.beq len 1 && decide (mret k = none)
  | _ => Nat.beq len 1
def isNop (i : Instr) : Bool := match i with
  | .nop => true
  | _ => false
noncomputable def rowB (k : Nat) (e : OE) (rest cc : List OE) : Bool := isNop e.2.1 || decide (decode (mcode k) e.1 = .ok (e.2.1, e.2.2.1)) && ((match rest with
  | [] => true
  | e2 :: _ => Nat.beq e2.1 (e.1 + e.2.2.1)) && rowA k e.1 e.2.1 e.2.2.1 e.2.2.2.1 e.2.2.2.2.1 e.2.2.2.2.2 cc)
/-- the first n rows -/
noncomputable def chkD (k : Nat) (cc : List OE) : Nat → List OE → Bool
  | 0, _ => true
  | _ + 1, [] => true
  | n + 1, e :: r => rowB k e r cc && chkD k cc n r
noncomputable def chkL (k : Nat) (cc : List OE) : List OE → Bool
  | [] => true
  | e :: r => rowB k e r cc && chkL k cc r
noncomputable def ckT (k : Nat) : Bool := match bget 9 mtT k with
  | some (l, ml, c) => chkL k l l && (Nat.beq ml (mmaxl k) && (Nat.beq c (mcls k) && (match l with
    | e :: _ => Nat.beq e.1 0
    | [] => true)))
  | none => true
theorem chkL_split {k : Nat} {cc : List OE} : ∀ (n : Nat) (l : List OE), chkD k cc n l = true → chkL k cc (l.drop n) = true → chkL k cc l = true
  | 0, l, _, h => h
  | n + 1, [], _, _ => rfl
  | n + 1, e :: r, h, h2 => by
    unfold chkD at h
    rw [Bool.and_eq_true] at h
    show (rowB k e r cc && chkL k cc r) = true
    rw [h.1, chkL_split n r h.2 h2]
    rfl
