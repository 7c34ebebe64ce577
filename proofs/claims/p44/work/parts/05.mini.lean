/-! THE SMALL MACHINE: whole numbers are Ints in range, references are places, the heap is two functions -/
abbrev MV : Type := Int ⊕ (Int ⊕ Option Nat)
abbrev vi (x : Int) : MV := Sum.inl x
abbrev vl (x : Int) : MV := Sum.inr (Sum.inl x)
abbrev vq (r : Option Nat) : MV := Sum.inr (Sum.inr r)
abbrev vr (a : Nat) : MV := Sum.inr (Sum.inr (some a))
abbrev vn : MV := Sum.inr (Sum.inr none)
/-- how many cells, how many slots, each cell's kind and length, references, numbers -/
abbrev MM : Type := Nat × Nat × (Nat → Nat × Nat) × (Nat → Nat → Option Nat) × (Nat → Nat → Int)
def wI (x : Int) : Int := (x + 2147483648) % 4294967296 - 2147483648
def wL (x : Int) : Int := (x + 9223372036854775808) % 18446744073709551616 - 9223372036854775808
def inI (x : Int) : Prop := -2147483648 ≤ x ∧ x < 2147483648
def inL (x : Int) : Prop := -9223372036854775808 ≤ x ∧ x < 9223372036854775808
theorem wI_id {x : Int} (h : inI x) : wI x = x := by unfold wI; unfold inI at h; omega
theorem wI_in (x : Int) : inI (wI x) := by unfold wI inI; omega
theorem wL_id {x : Int} (h : inL x) : wL x = x := by unfold wL; unfold inL at h; omega
theorem wL_in (x : Int) : inL (wL x) := by unfold wL inL; omega
def up {α : Type} (f : Nat → Nat → α) (a k : Nat) (x : α) : Nat → Nat → α := fun b j => if b = a ∧ j = k then x else f b j
def upz {α : Type} (f : Nat → Nat → α) (a : Nat) (x : α) : Nat → Nat → α := fun b j => if b = a then x else f b j
def upk {α : Type} (f : Nat → α) (a : Nat) (x : α) : Nat → α := fun b => if b = a then x else f b
def cpI (f : Nat → Nat → Int) (a b sp dp n : Nat) : Nat → Nat → Int := fun c j => if c = b ∧ dp ≤ j ∧ j < dp + n then f a (sp + (j - dp)) else f c j
def kl (ls : List MV) (i : Nat) : List MV := match ls[i - 1]? with
  | some (Sum.inr (Sum.inl _)) => ls.set (i - 1) vn
  | _ => ls
def st1 (ls : List MV) (i : Nat) (v : MV) : List MV := (kl ls i).set i v
def st2 (ls : List MV) (i : Nat) (v : MV) : List MV := ((kl ls i).set i v).set (i + 1) vn
def wd : MV → Nat
  | Sum.inr (Sum.inl _) => 2
  | _ => 1
def wds (st : List MV) : Nat := (st.map wd).sum
def cmI (c : Jvm.ClassFile.Cond) (x y : Int) : Prop := match c with
  | .eq => x = y
  | .ne => x ≠ y
  | .lt => x < y
  | .ge => y ≤ x
  | .gt => y < x
  | .le => x ≤ y
def flt (a : List MV) : List MV := a.flatMap fun v => match v with
  | Sum.inr (Sum.inl x) => [vl x, vn]
  | v => [v]
def ent (k : Nat) (a : List MV) : List MV := flt a ++ List.replicate (mmaxl k - (flt a).length) vn
def sHl (x y : Int) : Int := (Int32.ofInt x <<< (Int32.ofInt y &&& 31)).toInt
def sHr (x y : Int) : Int := (Int32.ofInt x >>> (Int32.ofInt y &&& 31)).toInt
def sUr (x y : Int) : Int := ((Int32.ofInt x).toUInt32 >>> ((Int32.ofInt y).toUInt32 &&& Int32.toUInt32 31)).toInt32.toInt
def aNd (x y : Int) : Int := (Int32.ofInt x &&& Int32.ofInt y).toInt
def xOr (x y : Int) : Int := (Int32.ofInt x ^^^ Int32.ofInt y).toInt
def lAnd (x y : Int) : Int := (Int64.ofInt x &&& Int64.ofInt y).toInt
def lOr (x y : Int) : Int := (Int64.ofInt x ||| Int64.ofInt y).toInt
def lShl (x y : Int) : Int := (Int64.ofInt x <<< ((Int32.ofInt y).toInt64 &&& 63)).toInt
def lCm (x y : Int) : Int := if y < x then 1 else if x = y then 0 else -1
def mxI (x y : Int) : Int := if x < y then y else x
def mnI (x y : Int) : Int := if y < x then y else x
def abI (x : Int) : Int := if 0 ≤ x then x else wI (0 - x)
def abL (x : Int) : Int := if 0 < x then x else wL (-x)
abbrev Cl : Type := Nat → List MV → MM → Option MV → MM → Prop
abbrev Nx : Type := Nat → List MV → List MV → MM → Prop
/-- what an instruction asks, and where it goes on -/
def stepI (call : Cl) (k : Nat) (i : Instr) (len pc : Nat) (ls st : List MV) (M : MM) (C : Nx) : Prop := match i with
  | .iconst n => len = 1 ∧ inI n ∧ C (pc + 1) ls (vi n :: st) M
  | .bipush n => len = 2 ∧ inI n ∧ (Int8.ofInt n).toInt32 = Int32.ofInt n ∧ C (pc + 2) ls (vi n :: st) M
  | .sipush n => len = 3 ∧ inI n ∧ (Int16.ofInt n).toInt32 = Int32.ofInt n ∧ C (pc + 3) ls (vi n :: st) M
  | .lconst l => len = 1 ∧ C (pc + 1) ls (vl ((l : Nat) : Int) :: st) M
  | .ldc idx => len = 2 ∧ ∃ x, cst (mcls k) idx = some x ∧ inI x ∧ C (pc + 2) ls (vi x :: st) M
  | .ldc_w idx => len = 3 ∧ ∃ x, cst (mcls k) idx = some x ∧ inI x ∧ C (pc + 3) ls (vi x :: st) M
  | .ldc2_w idx => len = 3 ∧ ∃ x, csl (mcls k) idx = some x ∧ inL x ∧ C (pc + 3) ls (vl x :: st) M
  | .iload i => len = 2 ∧ ∃ x, ls[i]? = some (vi x) ∧ C (pc + 2) ls (vi x :: st) M
  | .iload_n i => len = 1 ∧ ∃ x, ls[(i : Nat)]? = some (vi x) ∧ C (pc + 1) ls (vi x :: st) M
  | .lload i => len = 2 ∧ ∃ x, ls[i]? = some (vl x) ∧ C (pc + 2) ls (vl x :: st) M
  | .lload_n i => len = 1 ∧ ∃ x, ls[(i : Nat)]? = some (vl x) ∧ C (pc + 1) ls (vl x :: st) M
  | .aload i => len = 2 ∧ ∃ x, ls[i]? = some (vr x) ∧ C (pc + 2) ls (vr x :: st) M
  | .aload_n i => len = 1 ∧ ∃ x, ls[(i : Nat)]? = some (vr x) ∧ C (pc + 1) ls (vr x :: st) M
  | .istore i => len = 2 ∧ ∃ x t, st = vi x :: t ∧ i < ls.length ∧ C (pc + 2) (st1 ls i (vi x)) t M
  | .istore_n i => len = 1 ∧ ∃ x t, st = vi x :: t ∧ (i : Nat) < ls.length ∧ C (pc + 1) (st1 ls i (vi x)) t M
  | .lstore i => len = 2 ∧ ∃ x t, st = vl x :: t ∧ i + 1 < ls.length ∧ C (pc + 2) (st2 ls i (vl x)) t M
  | .lstore_n i => len = 1 ∧ ∃ x t, st = vl x :: t ∧ (i : Nat) + 1 < ls.length ∧ C (pc + 1) (st2 ls i (vl x)) t M
  | .astore i => len = 2 ∧ ∃ x t, st = vr x :: t ∧ i < ls.length ∧ C (pc + 2) (st1 ls i (vr x)) t M
  | .astore_n i => len = 1 ∧ ∃ x t, st = vr x :: t ∧ (i : Nat) < ls.length ∧ C (pc + 1) (st1 ls i (vr x)) t M
  | .iinc i n => len = 3 ∧ ∃ x, ls[i]? = some (vi x) ∧ C (pc + 3) (st1 ls i (vi (wI (x + n)))) st M
  | .iadd => len = 1 ∧ ∃ x y t, st = vi y :: vi x :: t ∧ C (pc + 1) ls (vi (wI (x + y)) :: t) M
  | .isub => len = 1 ∧ ∃ x y t, st = vi y :: vi x :: t ∧ C (pc + 1) ls (vi (wI (x - y)) :: t) M
  | .imul => len = 1 ∧ ∃ x y t, st = vi y :: vi x :: t ∧ C (pc + 1) ls (vi (wI (x * y)) :: t) M
  | .idiv => len = 1 ∧ ∃ x y t, st = vi y :: vi x :: t ∧ y ≠ 0 ∧ C (pc + 1) ls (vi (wI (x.tdiv y)) :: t) M
  | .irem => len = 1 ∧ ∃ x y t, st = vi y :: vi x :: t ∧ y ≠ 0 ∧ C (pc + 1) ls (vi (x.tmod y) :: t) M
  | .iand => len = 1 ∧ ∃ x y t, st = vi y :: vi x :: t ∧ C (pc + 1) ls (vi (aNd x y) :: t) M
  | .ixor => len = 1 ∧ ∃ x y t, st = vi y :: vi x :: t ∧ C (pc + 1) ls (vi (xOr x y) :: t) M
  | .ishl => len = 1 ∧ ∃ x y t, st = vi y :: vi x :: t ∧ C (pc + 1) ls (vi (sHl x y) :: t) M
  | .ishr => len = 1 ∧ ∃ x y t, st = vi y :: vi x :: t ∧ C (pc + 1) ls (vi (sHr x y) :: t) M
  | .iushr => len = 1 ∧ ∃ x y t, st = vi y :: vi x :: t ∧ C (pc + 1) ls (vi (sUr x y) :: t) M
  | .ineg => len = 1 ∧ ∃ x t, st = vi x :: t ∧ C (pc + 1) ls (vi (wI (-x)) :: t) M
  | .ladd => len = 1 ∧ ∃ x y t, st = vl y :: vl x :: t ∧ C (pc + 1) ls (vl (wL (x + y)) :: t) M
  | .lsub => len = 1 ∧ ∃ x y t, st = vl y :: vl x :: t ∧ C (pc + 1) ls (vl (wL (x - y)) :: t) M
  | .lmul => len = 1 ∧ ∃ x y t, st = vl y :: vl x :: t ∧ C (pc + 1) ls (vl (wL (x * y)) :: t) M
  | .ldiv => len = 1 ∧ ∃ x y t, st = vl y :: vl x :: t ∧ y ≠ 0 ∧ C (pc + 1) ls (vl (wL (x.tdiv y)) :: t) M
  | .lrem => len = 1 ∧ ∃ x y t, st = vl y :: vl x :: t ∧ y ≠ 0 ∧ C (pc + 1) ls (vl (x.tmod y) :: t) M
  | .land => len = 1 ∧ ∃ x y t, st = vl y :: vl x :: t ∧ C (pc + 1) ls (vl (lAnd x y) :: t) M
  | .lor => len = 1 ∧ ∃ x y t, st = vl y :: vl x :: t ∧ C (pc + 1) ls (vl (lOr x y) :: t) M
  | .lshl => len = 1 ∧ ∃ x y t, st = vi y :: vl x :: t ∧ C (pc + 1) ls (vl (lShl x y) :: t) M
  | .lneg => len = 1 ∧ ∃ x t, st = vl x :: t ∧ C (pc + 1) ls (vl (wL (-x)) :: t) M
  | .lcmp => len = 1 ∧ ∃ x y t, st = vl y :: vl x :: t ∧ C (pc + 1) ls (vi (lCm x y) :: t) M
  | .i2l => len = 1 ∧ ∃ x t, st = vi x :: t ∧ C (pc + 1) ls (vl x :: t) M
  | .l2i => len = 1 ∧ ∃ x t, st = vl x :: t ∧ C (pc + 1) ls (vi (wI x) :: t) M
  | .dup => len = 1 ∧ ∃ v t, st = v :: t ∧ wd v = 1 ∧ C (pc + 1) ls (v :: v :: t) M
  | .dup2 => len = 1 ∧ ∃ v w t, st = v :: w :: t ∧ wd v = 1 ∧ wd w = 1 ∧ C (pc + 1) ls (v :: w :: v :: w :: t) M
  | .pop => len = 1 ∧ ∃ v t, st = v :: t ∧ wd v = 1 ∧ C (pc + 1) ls t M
  | .pop2 => len = 1 ∧ ∃ v t, st = v :: t ∧ wd v = 2 ∧ C (pc + 1) ls t M
  | .if_icmp c off => len = 3 ∧ ∃ x y t, st = vi y :: vi x :: t ∧ ∃ tgt : Nat, (pc : Int) + off = (tgt : Int) ∧ (cmI c x y → C tgt ls t M) ∧ (¬ cmI c x y → C (pc + 3) ls t M)
  | .ifCond c off => len = 3 ∧ ∃ x t, st = vi x :: t ∧ ∃ tgt : Nat, (pc : Int) + off = (tgt : Int) ∧ (cmI c x 0 → C tgt ls t M) ∧ (¬ cmI c x 0 → C (pc + 3) ls t M)
  | .goto off => len = 3 ∧ ∃ tgt : Nat, (pc : Int) + off = (tgt : Int) ∧ C tgt ls st M
  | .ifnull off => len = 3 ∧ ∃ q t, st = vq q :: t ∧ ∃ tgt : Nat, (pc : Int) + off = (tgt : Int) ∧ (q = none → C tgt ls t M) ∧ (q ≠ none → C (pc + 3) ls t M)
  | .ifnonnull off => len = 3 ∧ ∃ q t, st = vq q :: t ∧ ∃ tgt : Nat, (pc : Int) + off = (tgt : Int) ∧ (q ≠ none → C tgt ls t M) ∧ (q = none → C (pc + 3) ls t M)
  | .tableswitch df lo hi offs => ∃ x t, st = vi x :: t ∧ (((x < lo ∨ hi < x) ∧ ∃ tgt : Nat, (pc : Int) + df = (tgt : Int) ∧ C tgt ls t M) ∨ (¬ x < lo ∧ ¬ hi < x ∧ ∃ (off : Int) (tgt : Nat), offs[(x - lo).toNat]? = some off ∧ (pc : Int) + off = (tgt : Int) ∧ C tgt ls t M))
  | .getfield idx => len = 3 ∧ ∃ g c j a t v, st = vr a :: t ∧ pool (mcls k) idx = some (g, c, j) ∧ M.2.2.1 a = (c, 0) ∧ ((g = 1 ∧ v = vi (M.2.2.2.2 a j)) ∨ (g = 2 ∧ v = vi (M.2.2.2.2 a j)) ∨ (g = 3 ∧ v = vq (M.2.2.2.1 a j))) ∧ C (pc + 3) ls (v :: t) M
  | .putfield idx => len = 3 ∧ ∃ g c j a t v M1, st = v :: vr a :: t ∧ pool (mcls k) idx = some (g, c, j) ∧ M.2.2.1 a = (c, 0) ∧ (fn c j = false ∨ ((mname k).name = "<init>" ∧ mcls k = c)) ∧
      ((g = 1 ∧ ∃ x, v = vi x ∧ M1 = (M.1, M.2.1, M.2.2.1, M.2.2.2.1, up M.2.2.2.2 a j x)) ∨ (g = 2 ∧ ∃ x, v = vi x ∧ (x = 0 ∨ x = 1) ∧ M1 = (M.1, M.2.1, M.2.2.1, M.2.2.2.1, up M.2.2.2.2 a j x)) ∨ (g = 3 ∧ ∃ x, v = vr x ∧ M1 = (M.1, M.2.1, M.2.2.1, up M.2.2.2.1 a j (some x), M.2.2.2.2))) ∧ C (pc + 3) ls t M1
  | .iaload => len = 1 ∧ ∃ i a t n, st = vi i :: vr a :: t ∧ (M.2.2.1 a = (20, n) ∨ M.2.2.1 a = (23, n)) ∧ 0 ≤ i ∧ i < (n : Int) ∧ C (pc + 1) ls (vi (M.2.2.2.2 a i.toNat) :: t) M
  | .baload => len = 1 ∧ ∃ i a t n, st = vi i :: vr a :: t ∧ M.2.2.1 a = (21, n) ∧ 0 ≤ i ∧ i < (n : Int) ∧ C (pc + 1) ls (vi (M.2.2.2.2 a i.toNat) :: t) M
  | .aaload => len = 1 ∧ ∃ i a t n, st = vi i :: vr a :: t ∧ M.2.2.1 a = (22, n) ∧ 0 ≤ i ∧ i < (n : Int) ∧ C (pc + 1) ls (vq (M.2.2.2.1 a i.toNat) :: t) M
  | .iastore => len = 1 ∧ ∃ x i a t n, st = vi x :: vi i :: vr a :: t ∧ M.2.2.1 a = (20, n) ∧ 0 ≤ i ∧ i < (n : Int) ∧ C (pc + 1) ls t (M.1, M.2.1, M.2.2.1, M.2.2.2.1, up M.2.2.2.2 a i.toNat x)
  | .bastore => len = 1 ∧ ∃ x i a t n, st = vi x :: vi i :: vr a :: t ∧ M.2.2.1 a = (21, n) ∧ 0 ≤ i ∧ i < (n : Int) ∧ (x = 0 ∨ x = 1) ∧ C (pc + 1) ls t (M.1, M.2.1, M.2.2.1, M.2.2.2.1, up M.2.2.2.2 a i.toNat x)
  | .aastore => len = 1 ∧ ∃ x i a t n, st = vr x :: vi i :: vr a :: t ∧ M.2.2.1 a = (22, n) ∧ M.2.2.1 x = (10, 0) ∧ 0 ≤ i ∧ i < (n : Int) ∧ C (pc + 1) ls t (M.1, M.2.1, M.2.2.1, up M.2.2.2.1 a i.toNat (some x), M.2.2.2.2)
  | .arraylength => len = 1 ∧ ∃ a t g n, st = vr a :: t ∧ M.2.2.1 a = (g, n) ∧ (g = 20 ∨ g = 21 ∨ g = 22 ∨ g = 23) ∧ C (pc + 1) ls (vi (n : Int) :: t) M
  | .newarray ty => len = 2 ∧ ∃ n g t, st = vi n :: t ∧ 0 ≤ n ∧ n ≤ 100000 ∧ ((ty = .int ∧ g = 20) ∨ (ty = .boolean ∧ g = 21)) ∧ C (pc + 2) ls (vr M.1 :: t) (M.1 + 1, M.2.1 + n.toNat, upk M.2.2.1 M.1 (g, n.toNat), upz M.2.2.2.1 M.1 none, upz M.2.2.2.2 M.1 0)
  | .anewarray idx => len = 3 ∧ ∃ n t, st = vi n :: t ∧ pool (mcls k) idx = some (5, 10, 3) ∧ 0 ≤ n ∧ n ≤ 100000 ∧ C (pc + 3) ls (vr M.1 :: t) (M.1 + 1, M.2.1 + n.toNat, upk M.2.2.1 M.1 (22, n.toNat), upz M.2.2.2.1 M.1 none, upz M.2.2.2.2 M.1 0)
  | .new idx => len = 3 ∧ ∃ c n, pool (mcls k) idx = some (5, c, n) ∧ C (pc + 3) ls (vr M.1 :: st) (M.1 + 1, M.2.1 + n, upk M.2.2.1 M.1 (c, 0), upz M.2.2.2.1 M.1 none, upz M.2.2.2.2 M.1 0)
  | .invokevirtual idx => len = 3 ∧ ∃ y n as a t r M1, pool (mcls k) idx = some (4, y, n) ∧ st = as.reverse ++ (vr a :: t) ∧ as.length = n ∧ M.2.2.1 a = (mcls y, 0) ∧ mstat y = false ∧ ((mname y).name == "<init>") = false ∧ wds t ≤ 8 ∧ call y (vr a :: as) M r M1 ∧ C (pc + 3) ls (r.toList ++ t) M1
  | .invokestatic idx => len = 3 ∧ ((∃ y n as t r M1, pool (mcls k) idx = some (4, y, n) ∧ st = as.reverse ++ t ∧ as.length = n ∧ mstat y = true ∧ wds t ≤ 8 ∧ call y as M r M1 ∧ C (pc + 3) ls (r.toList ++ t) M1) ∨
      (∃ n dp b sp a g na nb t, pool (mcls k) idx = some (6, 0, 0) ∧ st = vi n :: vi dp :: vr b :: vi sp :: vr a :: t ∧ wds t ≤ 8 ∧ M.2.2.1 a = (g, na) ∧ M.2.2.1 b = (g, nb) ∧ (g = 20 ∨ g = 21) ∧ 0 ≤ n ∧ 0 ≤ dp ∧ 0 ≤ sp ∧ sp + n ≤ (na : Int) ∧ dp + n ≤ (nb : Int) ∧ C (pc + 3) ls t (M.1, M.2.1, M.2.2.1, M.2.2.2.1, cpI M.2.2.2.2 a b sp.toNat dp.toNat n.toNat)) ∨
      (∃ x y t, pool (mcls k) idx = some (8, 0, 0) ∧ st = vi y :: vi x :: t ∧ wds t ≤ 8 ∧ C (pc + 3) ls (vi (mxI x y) :: t) M) ∨
      (∃ x y t, pool (mcls k) idx = some (9, 0, 0) ∧ st = vi y :: vi x :: t ∧ wds t ≤ 8 ∧ C (pc + 3) ls (vi (mnI x y) :: t) M) ∨
      (∃ x t, pool (mcls k) idx = some (10, 0, 0) ∧ st = vi x :: t ∧ wds t ≤ 8 ∧ C (pc + 3) ls (vi (abI x) :: t) M) ∨
      (∃ x t, pool (mcls k) idx = some (11, 0, 0) ∧ st = vl x :: t ∧ wds t ≤ 8 ∧ C (pc + 3) ls (vl (abL x) :: t) M))
  | .invokespecial idx => len = 3 ∧ ((∃ y n as a t M1, pool (mcls k) idx = some (4, y, n) ∧ st = as.reverse ++ (vr a :: t) ∧ as.length = n ∧ mstat y = false ∧ ((mname y).name == "<init>") = true ∧ wds t ≤ 8 ∧ call y (vr a :: as) M none M1 ∧ C (pc + 3) ls t M1) ∨
      (∃ a t, pool (mcls k) idx = some (7, 0, 0) ∧ st = vr a :: t ∧ wds t ≤ 8 ∧ C (pc + 3) ls t M))
  | _ => False
/-- a method's end -/
def retI (k : Nat) (i : Instr) (len : Nat) (st : List MV) (r : Option MV) : Prop := match i with
  | .ireturn => len = 1 ∧ ∃ x, st = [vi x] ∧ r = some (vi x) ∧ (mret k = some .int ∨ (mret k = some .boolean ∧ (x = 0 ∨ x = 1)))
  | .lreturn => len = 1 ∧ ∃ x, st = [vl x] ∧ r = some (vl x) ∧ mret k = some .long
  | .return_ => len = 1 ∧ st = [] ∧ r = none ∧ mret k = none
  | _ => False
def Ex (call : Cl) (k : Nat) : Nat → Nat → List MV → List MV → MM → Option MV → MM → Prop
  | 0, _, _, _, _, _, _ => False
  | n + 1, pc, ls, st, M, r, M' => (M.1 ≤ M'.1 ∧ M.2.1 ≤ M'.2.1) ∧ ∃ (i : Instr) (len : Nat), decode (mcode k) pc = .ok (i, len) ∧ ((retI k i len st r ∧ M' = M) ∨ stepI call k i len pc ls st M (fun pc2 ls2 st2 M2 => Ex call k n pc2 ls2 st2 M2 r M'))
def Runs : Nat → Cl
  | 0, _, _, _, _, _ => False
  | d + 1, k, a, M, r, M' => (flt a).length ≤ mmaxl k ∧ ∃ n, Ex (Runs d) k n 0 (ent k a) [] M r M'
theorem Ex.mono {call : Cl} {k n pc : Nat} {ls st : List MV} {M M' : MM} {r : Option MV} (h : Ex call k n pc ls st M r M') : M.1 ≤ M'.1 ∧ M.2.1 ≤ M'.2.1 := by
  cases n with
  | zero => exact False.elim h
  | succ n => exact h.1
theorem Runs.mono {d k : Nat} {a : List MV} {M M' : MM} {r : Option MV} (h : Runs d k a M r M') : M.1 ≤ M'.1 ∧ M.2.1 ≤ M'.2.1 := by
  cases d with
  | zero => exact False.elim h
  | succ d => exact h.2.choose_spec.mono
/-- from here the method comes to an end with Q -/
def Wm (d k pc : Nat) (ls st : List MV) (M : MM) (Q : Option MV → MM → Prop) : Prop := ∃ n r M', Ex (Runs d) k n pc ls st M r M' ∧ Q r M'
/-- the method, called so, returns with Q -/
def Rm (d k : Nat) (a : List MV) (M : MM) (Q : Option MV → MM → Prop) : Prop := ∃ r M', Runs d k a M r M' ∧ Q r M'
theorem Wm.imp {d k pc : Nat} {ls st : List MV} {M : MM} {Q Q2 : Option MV → MM → Prop} (h : Wm d k pc ls st M Q) (hq : ∀ r M', Q r M' → Q2 r M') : Wm d k pc ls st M Q2 := by
  obtain ⟨n, r, M', h, q⟩ := h
  exact ⟨n, r, M', h, hq _ _ q⟩
theorem Rm.imp {d k : Nat} {a : List MV} {M : MM} {Q Q2 : Option MV → MM → Prop} (h : Rm d k a M Q) (hq : ∀ r M', Q r M' → Q2 r M') : Rm d k a M Q2 := by
  obtain ⟨r, M', h, q⟩ := h
  exact ⟨r, M', h, hq _ _ q⟩
theorem Rm.of {d k : Nat} {a : List MV} {M : MM} {Q : Option MV → MM → Prop} (ls : List MV) (hf : ((flt a).length ≤ mmaxl k) = True := by rfl) (he : ent k a = ls := by rfl) (h : Wm d k 0 ls [] M Q) : Rm (d + 1) k a M Q := by
  obtain ⟨n, r, M', h, q⟩ := h
  subst he
  exact ⟨r, M', ⟨of_eq_true hf, n, h⟩, q⟩
