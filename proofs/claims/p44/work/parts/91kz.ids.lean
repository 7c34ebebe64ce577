/-! facts that ask no seed -/
set_option maxRecDepth 100000 in
theorem z_2 (g : GG) (z : Nat) (l : List MV) (Γ : Nat → Nat) (M : MM) : PSt g 2 l Γ M ↔ PSt (g.1, g.2.1, z) 2 l Γ M := Iff.rfl
set_option maxRecDepth 100000 in
theorem z_50 (g : GG) (z : Nat) (l : List MV) (Γ : Nat → Nat) (M : MM) : PSt g 50 l Γ M ↔ PSt (g.1, g.2.1, z) 50 l Γ M := Iff.rfl
set_option maxRecDepth 100000 in
theorem z_51 (g : GG) (z : Nat) (l : List MV) (Γ : Nat → Nat) (M : MM) : PSt g 51 l Γ M ↔ PSt (g.1, g.2.1, z) 51 l Γ M := Iff.rfl
set_option maxRecDepth 100000 in
theorem z_58 (g : GG) (z : Nat) (l : List MV) (Γ : Nat → Nat) (M : MM) : PSt g 58 l Γ M ↔ PSt (g.1, g.2.1, z) 58 l Γ M := Iff.rfl
set_option maxRecDepth 100000 in
theorem z_70 (g : GG) (z : Nat) (l : List MV) (Γ : Nat → Nat) (M : MM) : PSt g 70 l Γ M ↔ PSt (g.1, g.2.1, z) 70 l Γ M := Iff.rfl
set_option maxRecDepth 100000 in
theorem z_78 (g : GG) (z : Nat) (l : List MV) (Γ : Nat → Nat) (M : MM) : PSt g 78 l Γ M ↔ PSt (g.1, g.2.1, z) 78 l Γ M := Iff.rfl
set_option maxRecDepth 100000 in
theorem z_453 (g : GG) (z : Nat) (l : List MV) (Γ : Nat → Nat) (M : MM) : PSt g 453 l Γ M ↔ PSt (g.1, g.2.1, z) 453 l Γ M := PM_z (fun _ _ _ _ h => h) g z l Γ M
set_option maxRecDepth 100000 in
theorem z_500 (g : GG) (z : Nat) (l : List MV) (Γ : Nat → Nat) (M : MM) : PSt g 500 l Γ M ↔ PSt (g.1, g.2.1, z) 500 l Γ M := PM_z (fun _ _ _ _ h => h) g z l Γ M
set_option maxRecDepth 100000 in
theorem z_511 (g : GG) (z : Nat) (l : List MV) (Γ : Nat → Nat) (M : MM) : PSt g 511 l Γ M ↔ PSt (g.1, g.2.1, z) 511 l Γ M := PM_z (fun _ _ _ _ h => h) g z l Γ M
set_option maxRecDepth 100000 in
theorem z_542 (g : GG) (z : Nat) (l : List MV) (Γ : Nat → Nat) (M : MM) : PSt g 542 l Γ M ↔ PSt (g.1, g.2.1, z) 542 l Γ M := PM_z (fun _ _ _ _ h => h) g z l Γ M
set_option maxRecDepth 100000 in
theorem z_580 (g : GG) (z : Nat) (l : List MV) (Γ : Nat → Nat) (M : MM) : PSt g 580 l Γ M ↔ PSt (g.1, g.2.1, z) 580 l Γ M := PM_z (fun _ _ _ _ h => h) g z l Γ M
set_option maxRecDepth 100000 in
theorem z_584 (g : GG) (z : Nat) (l : List MV) (Γ : Nat → Nat) (M : MM) : PSt g 584 l Γ M ↔ PSt (g.1, g.2.1, z) 584 l Γ M := PM_z (fun _ _ _ _ h => h) g z l Γ M
set_option maxRecDepth 100000 in
theorem z_591 (g : GG) (z : Nat) (l : List MV) (Γ : Nat → Nat) (M : MM) : PSt g 591 l Γ M ↔ PSt (g.1, g.2.1, z) 591 l Γ M := PM_z (fun _ _ _ _ h => h) g z l Γ M
set_option maxRecDepth 100000 in
theorem z_594 (g : GG) (z : Nat) (l : List MV) (Γ : Nat → Nat) (M : MM) : PSt g 594 l Γ M ↔ PSt (g.1, g.2.1, z) 594 l Γ M := PM_z (fun _ _ _ _ h => h) g z l Γ M
set_option maxRecDepth 100000 in
theorem z_595 (g : GG) (z : Nat) (l : List MV) (Γ : Nat → Nat) (M : MM) : PSt g 595 l Γ M ↔ PSt (g.1, g.2.1, z) 595 l Γ M := PM_z (fun _ _ _ _ h => h) g z l Γ M
set_option maxRecDepth 100000 in
theorem z_596 (g : GG) (z : Nat) (l : List MV) (Γ : Nat → Nat) (M : MM) : PSt g 596 l Γ M ↔ PSt (g.1, g.2.1, z) 596 l Γ M := PM_z (fun _ _ _ _ h => h) g z l Γ M
set_option maxRecDepth 100000 in
theorem z_746 (g : GG) (z : Nat) (l : List MV) (Γ : Nat → Nat) (M : MM) : PSt g 746 l Γ M ↔ PSt (g.1, g.2.1, z) 746 l Γ M := PM_z (fun _ _ _ _ h => h) g z l Γ M
set_option maxRecDepth 100000 in
theorem z_747 (g : GG) (z : Nat) (l : List MV) (Γ : Nat → Nat) (M : MM) : PSt g 747 l Γ M ↔ PSt (g.1, g.2.1, z) 747 l Γ M := PM_z (fun _ _ _ _ h => h) g z l Γ M
set_option maxRecDepth 100000 in
theorem z_760 (g : GG) (z : Nat) (l : List MV) (Γ : Nat → Nat) (M : MM) : PSt g 760 l Γ M ↔ PSt (g.1, g.2.1, z) 760 l Γ M := PM_z (fun _ _ _ _ h => h) g z l Γ M
set_option maxRecDepth 100000 in
theorem z_765 (g : GG) (z : Nat) (l : List MV) (Γ : Nat → Nat) (M : MM) : PSt g 765 l Γ M ↔ PSt (g.1, g.2.1, z) 765 l Γ M := PM_z (fun _ _ _ _ h => h) g z l Γ M
set_option maxRecDepth 100000 in
theorem z_766 (g : GG) (z : Nat) (l : List MV) (Γ : Nat → Nat) (M : MM) : PSt g 766 l Γ M ↔ PSt (g.1, g.2.1, z) 766 l Γ M := PM_z (fun _ _ _ _ h => h) g z l Γ M
set_option maxRecDepth 100000 in
theorem z_768 (g : GG) (z : Nat) (l : List MV) (Γ : Nat → Nat) (M : MM) : PSt g 768 l Γ M ↔ PSt (g.1, g.2.1, z) 768 l Γ M := PM_z (fun _ _ _ _ h => h) g z l Γ M
set_option maxRecDepth 100000 in
theorem z_770 (g : GG) (z : Nat) (l : List MV) (Γ : Nat → Nat) (M : MM) : PSt g 770 l Γ M ↔ PSt (g.1, g.2.1, z) 770 l Γ M := PM_z (fun _ _ _ _ h => h) g z l Γ M
set_option maxRecDepth 100000 in
theorem z_781 (g : GG) (z : Nat) (l : List MV) (Γ : Nat → Nat) (M : MM) : PSt g 781 l Γ M ↔ PSt (g.1, g.2.1, z) 781 l Γ M := PM_z (fun _ _ _ _ h => h) g z l Γ M
set_option maxRecDepth 100000 in
theorem z_788 (g : GG) (z : Nat) (l : List MV) (Γ : Nat → Nat) (M : MM) : PSt g 788 l Γ M ↔ PSt (g.1, g.2.1, z) 788 l Γ M := PM_z (fun _ _ _ _ h => h) g z l Γ M
set_option maxRecDepth 100000 in
theorem z_790 (g : GG) (z : Nat) (l : List MV) (Γ : Nat → Nat) (M : MM) : PSt g 790 l Γ M ↔ PSt (g.1, g.2.1, z) 790 l Γ M := PM_z (fun _ _ _ _ h => h) g z l Γ M
set_option maxRecDepth 100000 in
theorem z_990 (g : GG) (z : Nat) (l : List MV) (Γ : Nat → Nat) (M : MM) : PSt g 990 l Γ M ↔ PSt (g.1, g.2.1, z) 990 l Γ M := PM_z (fun _ _ _ _ h => h) g z l Γ M
set_option maxRecDepth 100000 in
theorem y_452 (g : GG) (n : Nat) (l : List MV) (Γ : Nat → Nat) (M : MM) : PSt g 452 l Γ M ↔ PSt (g.1, n, g.2.2) 452 l Γ M := PM_y (fun _ _ _ _ h => h) g n l Γ M
set_option maxRecDepth 100000 in
theorem y_727 (g : GG) (n : Nat) (l : List MV) (Γ : Nat → Nat) (M : MM) : PSt g 727 l Γ M ↔ PSt (g.1, n, g.2.2) 727 l Γ M := Iff.rfl
set_option maxRecDepth 100000 in
theorem y_731 (g : GG) (n : Nat) (l : List MV) (Γ : Nat → Nat) (M : MM) : PSt g 731 l Γ M ↔ PSt (g.1, n, g.2.2) 731 l Γ M := PM_y (fun _ _ _ _ h => h) g n l Γ M
set_option maxRecDepth 100000 in
theorem y_732 (g : GG) (n : Nat) (l : List MV) (Γ : Nat → Nat) (M : MM) : PSt g 732 l Γ M ↔ PSt (g.1, n, g.2.2) 732 l Γ M := PM_y (fun _ _ _ _ h => h) g n l Γ M
set_option maxRecDepth 100000 in
theorem y_733 (g : GG) (n : Nat) (l : List MV) (Γ : Nat → Nat) (M : MM) : PSt g 733 l Γ M ↔ PSt (g.1, n, g.2.2) 733 l Γ M := PM_y (fun _ _ _ _ h => h) g n l Γ M
set_option maxRecDepth 100000 in
theorem y_734 (g : GG) (n : Nat) (l : List MV) (Γ : Nat → Nat) (M : MM) : PSt g 734 l Γ M ↔ PSt (g.1, n, g.2.2) 734 l Γ M := PM_y (fun _ _ _ _ h => h) g n l Γ M
set_option maxRecDepth 100000 in
theorem y_735 (g : GG) (n : Nat) (l : List MV) (Γ : Nat → Nat) (M : MM) : PSt g 735 l Γ M ↔ PSt (g.1, n, g.2.2) 735 l Γ M := PM_y (fun _ _ _ _ h => h) g n l Γ M
set_option maxRecDepth 100000 in
theorem y_742 (g : GG) (n : Nat) (l : List MV) (Γ : Nat → Nat) (M : MM) : PSt g 742 l Γ M ↔ PSt (g.1, n, g.2.2) 742 l Γ M := PM_y (fun _ _ _ _ h => h) g n l Γ M
set_option maxRecDepth 100000 in
theorem y_743 (g : GG) (n : Nat) (l : List MV) (Γ : Nat → Nat) (M : MM) : PSt g 743 l Γ M ↔ PSt (g.1, n, g.2.2) 743 l Γ M := PM_y (fun _ _ _ _ h => h) g n l Γ M
set_option maxRecDepth 100000 in
theorem y_744 (g : GG) (n : Nat) (l : List MV) (Γ : Nat → Nat) (M : MM) : PSt g 744 l Γ M ↔ PSt (g.1, n, g.2.2) 744 l Γ M := PM_y (fun _ _ _ _ h => h) g n l Γ M
set_option maxRecDepth 100000 in
theorem y_746 (g : GG) (n : Nat) (l : List MV) (Γ : Nat → Nat) (M : MM) : PSt g 746 l Γ M ↔ PSt (g.1, n, g.2.2) 746 l Γ M := PM_y (fun _ _ _ _ h => h) g n l Γ M
set_option maxRecDepth 100000 in
theorem y_747 (g : GG) (n : Nat) (l : List MV) (Γ : Nat → Nat) (M : MM) : PSt g 747 l Γ M ↔ PSt (g.1, n, g.2.2) 747 l Γ M := PM_y (fun _ _ _ _ h => h) g n l Γ M
set_option maxRecDepth 100000 in
theorem y_749 (g : GG) (n : Nat) (l : List MV) (Γ : Nat → Nat) (M : MM) : PSt g 749 l Γ M ↔ PSt (g.1, n, g.2.2) 749 l Γ M := PM_y (fun _ _ _ _ h => h) g n l Γ M
set_option maxRecDepth 100000 in
theorem y_751 (g : GG) (n : Nat) (l : List MV) (Γ : Nat → Nat) (M : MM) : PSt g 751 l Γ M ↔ PSt (g.1, n, g.2.2) 751 l Γ M := Iff.rfl
set_option maxRecDepth 100000 in
theorem y_828 (g : GG) (n : Nat) (l : List MV) (Γ : Nat → Nat) (M : MM) : PSt g 828 l Γ M ↔ PSt (g.1, n, g.2.2) 828 l Γ M := PM_y (fun _ _ _ _ h => h) g n l Γ M
