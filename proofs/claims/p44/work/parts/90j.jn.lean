/-! p44: joined: a flow of cuts whose whirls are the charges -/
def JNF (R C : Int) (ph ov : Nat → Int) : Prop := ∃ w : Nat → Int, (∀ e : Nat, e < 288 → 0 ≤ ov e ∧ (ov e = 0 → w e = 0)) ∧ ∀ r c : Nat, ((r + 1 : Nat) : Int) < R → ((c + 1 : Nat) : Int) < C → 255 * kwF C.toNat w r c = crl C.toNat ph (r * C.toNat + c)
theorem JNF_of {g : Nat × Nat × Nat} {R C K : Int} {ph ov rg cg : Nat → Int} (hT : TRF R C ph K rg cg) (hR : R = zR g) (hC : C = zC g) (hK : K = zK g) (h1 : ∀ i : Nat, (i : Int) < K → rg i = zRg g i ∧ cg i = zCg g i) (hrg : ∀ r c : Nat, ((r + 1 : Nat) : Int) < R → ((c + 1 : Nat) : Int) < C → rgP R C ((r * C.toNat + c : Nat) : Int)) (h : WSA g ov) : JNF R C ph ov := by
  obtain ⟨w, q1, q2⟩ := h
  subst hR hC hK
  refine ⟨w, q1, fun r c hr hc => ?_⟩
  rw [q2 r c hr hc]
  show 255 * sm (fun i => if zRg g i = ((r * (zC g).toNat + c : Nat) : Int) then zCg g i else 0) (zK g).toNat = _
  have hp := hrg r c hr hc
  generalize r * (zC g).toNat + c = rc at hp ⊢
  by_cases hz : crl (zC g).toNat ph rc = 0
  · rw [hz, sm_z _ _ fun i hi => if_neg fun e => by
      obtain ⟨a1, a2⟩ := h1 i (by omega)
      have := (hT.2.1.1 i (by omega)).2
      rw [a1, e, show (((rc : Nat) : Int)).toNat = rc by omega, hz] at this
      omega]
    rfl
  · obtain ⟨i, hi, ei⟩ := hT.2.2 (rc : Int) hp (by rw [show ((rc : Nat) : Int).toNat = rc by omega]; exact hz)
    obtain ⟨a1, a2⟩ := h1 i hi
    rw [sm_1 (fun _ => 0) _ i (zK g).toNat (fun j hj hne => if_neg fun e => by
      obtain ⟨b1, -⟩ := h1 j (by omega)
      rcases Nat.lt_or_gt_of_ne hne with hlt | hlt
      · have := hT.2.1.2 j i hlt hi
        omega
      · have := hT.2.1.2 i j hlt (by omega)
        omega), sm_z (fun _ => 0) _ (fun _ _ => rfl), if_pos (show i < (zK g).toNat by omega)]
    have hcg := (hT.2.1.1 i hi).2.1
    rw [ei, show ((rc : Nat) : Int).toNat = rc by omega] at hcg
    rw [← hcg]
    show 255 * (0 + ((if zRg g i = (rc : Int) then zCg g i else 0) - 0)) = _
    rw [if_pos (by omega)]
    omega
theorem rgP_of {R C : Int} {r c : Nat} (h0 : 0 < C) (hr : ((r + 1 : Nat) : Int) < R) (hc : ((c + 1 : Nat) : Int) < C) : rgP R C ((r * C.toNat + c : Nat) : Int) := by
  have e1 : ((r * C.toNat + c : Nat) : Int) = (c : Int) + (r : Int) * C := by
    rw [Int.natCast_add, Int.natCast_mul, show ((C.toNat : Nat) : Int) = C by omega]
    omega
  have d1 : ((r * C.toNat + c : Nat) : Int) / C = r := by
    rw [e1, Int.add_mul_ediv_right _ _ (by omega), Int.ediv_eq_zero_of_lt (by omega) (by omega), Int.zero_add]
  have d2 : ((r * C.toNat + c : Nat) : Int) % C = c := by
    rw [e1, Int.add_mul_emod_self_right, Int.emod_eq_of_lt (by omega) (by omega)]
  refine ⟨by omega, ?_, by rw [d1]; omega, by rw [d2]; omega⟩
  rw [e1]
  have : (r : Int) * C + C ≤ R * C := by
    rw [show (r : Int) * C + C = ((r : Int) + 1) * C by rw [Int.add_mul, Int.one_mul]]
    exact Int.mul_le_mul_of_nonneg_right (by omega) (by omega)
  omega
