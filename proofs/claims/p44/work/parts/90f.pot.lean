/-! a map without whirls has a height -/
def sm (f : Nat → Int) : Nat → Int
  | 0 => 0
  | n + 1 => sm f n + f n
theorem rc_d {C r c : Nat} (hc : c < C) : (r * C + c) / C = r ∧ (r * C + c) % C = c := by
  have h0 : 0 < C := Nat.lt_of_le_of_lt (Nat.zero_le _) hc
  constructor
  · rw [Nat.mul_comm, Nat.mul_add_div h0, Nat.div_eq_of_lt hc, Nat.add_zero]
  · rw [Nat.mul_comm, Nat.mul_add_mod, Nat.mod_eq_of_lt hc]
/-- along the first row, then down -/
def potF (C : Nat) (D : Nat → Int) (p : Nat) : Int := sm (fun j => D (2 * j)) (p % C) + sm (fun i => D (2 * (i * C + p % C) + 1)) (p / C)
theorem pot_v {C : Nat} {D : Nat → Int} {r c : Nat} (hc : c < C) : potF C D ((r + 1) * C + c) - potF C D (r * C + c) = D (2 * (r * C + c) + 1) := by
  unfold potF
  rw [(rc_d hc).1, (rc_d hc).2, (rc_d hc).1, (rc_d hc).2]
  show sm _ c + (sm _ r + D (2 * (r * C + c) + 1)) - (sm _ c + sm _ r) = _
  omega
theorem pot_h {R C : Nat} {D : Nat → Int} (hD : ∀ r c, r + 1 < R → c + 1 < C → D (2 * (r * C + c)) + D (2 * (r * C + (c + 1)) + 1) - D (2 * ((r + 1) * C + c)) - D (2 * (r * C + c) + 1) = 0) {r c : Nat} (hr : r < R) (hc : c + 1 < C) : potF C D (r * C + (c + 1)) - potF C D (r * C + c) = D (2 * (r * C + c)) := by
  have key : ∀ k, k < R → sm (fun i => D (2 * (i * C + (c + 1)) + 1)) k - sm (fun i => D (2 * (i * C + c) + 1)) k = D (2 * (k * C + c)) - D (2 * c) := by
    intro k
    induction k with
    | zero =>
      intro _
      show (0 : Int) - 0 = _
      rw [Nat.zero_mul, Nat.zero_add]
      omega
    | succ k ih =>
      intro hk
      have h1 := ih (by omega)
      have h2 := hD k c hk hc
      show (sm _ k + D (2 * (k * C + (c + 1)) + 1)) - (sm _ k + D (2 * (k * C + c) + 1)) = _
      omega
  have h1 := key r hr
  have hc1 : c < C := by omega
  unfold potF
  rw [(rc_d hc).1, (rc_d hc).2, (rc_d hc1).1, (rc_d hc1).2]
  show (sm _ c + D (2 * c)) + sm _ r - (sm _ c + sm _ r) = _
  omega
