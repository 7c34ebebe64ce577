/-! facts that ask no seed -/
set_option maxRecDepth 100000 in
theorem z_2 (g : GG) (z : Nat) (l : List MV) (Γ : Nat → Nat) (M : MM) : PSt g 2 l Γ M ↔ PSt (g.1, g.2.1, z) 2 l Γ M := Iff.rfl
set_option maxRecDepth 100000 in
theorem z_50 (g : GG) (z : Nat) (l : List MV) (Γ : Nat → Nat) (M : MM) : PSt g 50 l Γ M ↔ PSt (g.1, g.2.1, z) 50 l Γ M := Iff.rfl
set_option maxRecDepth 100000 in
theorem z_51 (g : GG) (z : Nat) (l : List MV) (Γ : Nat → Nat) (M : MM) : PSt g 51 l Γ M ↔ PSt (g.1, g.2.1, z) 51 l Γ M := Iff.rfl
set_option maxRecDepth 100000 in
theorem z_453 (g : GG) (z : Nat) (l : List MV) (Γ : Nat → Nat) (M : MM) : PSt g 453 l Γ M ↔ PSt (g.1, g.2.1, z) 453 l Γ M := PM_z (fun _ _ _ _ h => h) g z l Γ M
set_option maxRecDepth 100000 in
theorem z_500 (g : GG) (z : Nat) (l : List MV) (Γ : Nat → Nat) (M : MM) : PSt g 500 l Γ M ↔ PSt (g.1, g.2.1, z) 500 l Γ M := PM_z (fun _ _ _ _ h => h) g z l Γ M
set_option maxRecDepth 100000 in
theorem z_584 (g : GG) (z : Nat) (l : List MV) (Γ : Nat → Nat) (M : MM) : PSt g 584 l Γ M ↔ PSt (g.1, g.2.1, z) 584 l Γ M := PM_z (fun _ _ _ _ h => h) g z l Γ M
set_option maxRecDepth 100000 in
theorem z_591 (g : GG) (z : Nat) (l : List MV) (Γ : Nat → Nat) (M : MM) : PSt g 591 l Γ M ↔ PSt (g.1, g.2.1, z) 591 l Γ M := PM_z (fun _ _ _ _ h => h) g z l Γ M
set_option maxRecDepth 100000 in
theorem z_594 (g : GG) (z : Nat) (l : List MV) (Γ : Nat → Nat) (M : MM) : PSt g 594 l Γ M ↔ PSt (g.1, g.2.1, z) 594 l Γ M := PM_z (fun _ _ _ _ h => h) g z l Γ M
set_option maxRecDepth 100000 in
theorem z_595 (g : GG) (z : Nat) (l : List MV) (Γ : Nat → Nat) (M : MM) : PSt g 595 l Γ M ↔ PSt (g.1, g.2.1, z) 595 l Γ M := PM_z (fun _ _ _ _ h => h) g z l Γ M
set_option maxRecDepth 100000 in
theorem z_596 (g : GG) (z : Nat) (l : List MV) (Γ : Nat → Nat) (M : MM) : PSt g 596 l Γ M ↔ PSt (g.1, g.2.1, z) 596 l Γ M := PM_z (fun _ _ _ _ h => h) g z l Γ M
set_option maxRecDepth 100000 in
theorem z_760 (g : GG) (z : Nat) (l : List MV) (Γ : Nat → Nat) (M : MM) : PSt g 760 l Γ M ↔ PSt (g.1, g.2.1, z) 760 l Γ M := PM_z (fun _ _ _ _ h => h) g z l Γ M
set_option maxRecDepth 100000 in
theorem z_765 (g : GG) (z : Nat) (l : List MV) (Γ : Nat → Nat) (M : MM) : PSt g 765 l Γ M ↔ PSt (g.1, g.2.1, z) 765 l Γ M := PM_z (fun _ _ _ _ h => h) g z l Γ M
set_option maxRecDepth 100000 in
theorem z_766 (g : GG) (z : Nat) (l : List MV) (Γ : Nat → Nat) (M : MM) : PSt g 766 l Γ M ↔ PSt (g.1, g.2.1, z) 766 l Γ M := PM_z (fun _ _ _ _ h => h) g z l Γ M
set_option maxRecDepth 100000 in
theorem z_768 (g : GG) (z : Nat) (l : List MV) (Γ : Nat → Nat) (M : MM) : PSt g 768 l Γ M ↔ PSt (g.1, g.2.1, z) 768 l Γ M := PM_z (fun _ _ _ _ h => h) g z l Γ M
set_option maxRecDepth 100000 in
theorem z_770 (g : GG) (z : Nat) (l : List MV) (Γ : Nat → Nat) (M : MM) : PSt g 770 l Γ M ↔ PSt (g.1, g.2.1, z) 770 l Γ M := PM_z (fun _ _ _ _ h => h) g z l Γ M
set_option maxRecDepth 100000 in
theorem z_788 (g : GG) (z : Nat) (l : List MV) (Γ : Nat → Nat) (M : MM) : PSt g 788 l Γ M ↔ PSt (g.1, g.2.1, z) 788 l Γ M := PM_z (fun _ _ _ _ h => h) g z l Γ M
set_option maxRecDepth 100000 in
theorem z_790 (g : GG) (z : Nat) (l : List MV) (Γ : Nat → Nat) (M : MM) : PSt g 790 l Γ M ↔ PSt (g.1, g.2.1, z) 790 l Γ M := PM_z (fun _ _ _ _ h => h) g z l Γ M
set_option maxRecDepth 100000 in
theorem z_990 (g : GG) (z : Nat) (l : List MV) (Γ : Nat → Nat) (M : MM) : PSt g 990 l Γ M ↔ PSt (g.1, g.2.1, z) 990 l Γ M := PM_z (fun _ _ _ _ h => h) g z l Γ M
