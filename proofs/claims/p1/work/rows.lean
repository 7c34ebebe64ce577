section
-- ===== PART A: goes FIRST, ahead of the names: the tables' words, and 'selects' of the private methods out of them =====
/-- a private method of a class that the tables say can be made, by its rows of tables_1 -/
def lw_okq (q : MethodName × Nat) : Prop := (q.1.cls ≠ "java/lang/invoke/MethodHandle" ∧ q.1.cls ≠ "java/lang/invoke/VarHandle") ∧ Cond.instantiable q.1.cls q.2 ∈ tables_1 ∧ Cond.privateMethod q.1 ∈ tables_1 ∧ Cond.instanceMethod q.1 ∈ tables_1
theorem lw_p0 : lw_okq (⟨"TornFringes", "gradeBy", "(II)I"⟩, 14) := ⟨⟨by decide +kernel, by decide +kernel⟩, List.mem_of_getElem? (i := 18) (by decide +kernel), List.mem_of_getElem? (i := 486) (by decide +kernel), List.mem_of_getElem? (i := 487) (by decide +kernel)⟩
theorem lw_p1 : lw_okq (⟨"TornFringes", "draw", "(I)I"⟩, 14) := ⟨⟨by decide +kernel, by decide +kernel⟩, List.mem_of_getElem? (i := 18) (by decide +kernel), List.mem_of_getElem? (i := 524) (by decide +kernel), List.mem_of_getElem? (i := 525) (by decide +kernel)⟩
theorem lw_p2 : lw_okq (⟨"TornFringes$Pairing", "pairNearest", "(LTornFringes$Chart;)V"⟩, 5) := ⟨⟨by decide +kernel, by decide +kernel⟩, List.mem_of_getElem? (i := 232) (by decide +kernel), List.mem_of_getElem? (i := 547) (by decide +kernel), List.mem_of_getElem? (i := 548) (by decide +kernel)⟩
theorem lw_p3 : lw_okq (⟨"TornFringes$Pairing", "pairAtFar", "(LTornFringes$Chart;II)V"⟩, 5) := ⟨⟨by decide +kernel, by decide +kernel⟩, List.mem_of_getElem? (i := 232) (by decide +kernel), List.mem_of_getElem? (i := 551) (by decide +kernel), List.mem_of_getElem? (i := 552) (by decide +kernel)⟩
theorem lw_p4 : lw_okq (⟨"TornFringes$Pairing", "pairLeast", "(LTornFringes$Chart;)V"⟩, 5) := ⟨⟨by decide +kernel, by decide +kernel⟩, List.mem_of_getElem? (i := 232) (by decide +kernel), List.mem_of_getElem? (i := 560) (by decide +kernel), List.mem_of_getElem? (i := 561) (by decide +kernel)⟩
theorem lw_p5 : lw_okq (⟨"TornFringes$Pairing", "leastMate", "(LTornFringes$Chart;II)I"⟩, 5) := ⟨⟨by decide +kernel, by decide +kernel⟩, List.mem_of_getElem? (i := 232) (by decide +kernel), List.mem_of_getElem? (i := 573) (by decide +kernel), List.mem_of_getElem? (i := 574) (by decide +kernel)⟩
theorem lw_p6 : lw_okq (⟨"TornFringes$Joining", "cutToBorder", "(LTornFringes$Chart;I)V"⟩, 5) := ⟨⟨by decide +kernel, by decide +kernel⟩, List.mem_of_getElem? (i := 78) (by decide +kernel), List.mem_of_getElem? (i := 598) (by decide +kernel), List.mem_of_getElem? (i := 599) (by decide +kernel)⟩
theorem lw_p7 : lw_okq (⟨"TornFringes$Joining", "goAlongColumn", "(LTornFringes$Chart;III)V"⟩, 5) := ⟨⟨by decide +kernel, by decide +kernel⟩, List.mem_of_getElem? (i := 78) (by decide +kernel), List.mem_of_getElem? (i := 605) (by decide +kernel), List.mem_of_getElem? (i := 606) (by decide +kernel)⟩
theorem lw_p8 : lw_okq (⟨"TornFringes$Joining", "goAlongRow", "(LTornFringes$Chart;III)V"⟩, 5) := ⟨⟨by decide +kernel, by decide +kernel⟩, List.mem_of_getElem? (i := 78) (by decide +kernel), List.mem_of_getElem? (i := 609) (by decide +kernel), List.mem_of_getElem? (i := 610) (by decide +kernel)⟩
theorem lw_p9 : lw_okq (⟨"TornFringes$Joining", "cutBetween", "(LTornFringes$Chart;II)V"⟩, 5) := ⟨⟨by decide +kernel, by decide +kernel⟩, List.mem_of_getElem? (i := 78) (by decide +kernel), List.mem_of_getElem? (i := 613) (by decide +kernel), List.mem_of_getElem? (i := 614) (by decide +kernel)⟩
theorem lw_p10 : lw_okq (⟨"TornFringes$Front", "offer", "(III)V"⟩, 5) := ⟨⟨by decide +kernel, by decide +kernel⟩, List.mem_of_getElem? (i := 256) (by decide +kernel), List.mem_of_getElem? (i := 690) (by decide +kernel), List.mem_of_getElem? (i := 691) (by decide +kernel)⟩
theorem lw_p11 : lw_okq (⟨"TornFringes$Front", "isBetter", "(II)Z"⟩, 5) := ⟨⟨by decide +kernel, by decide +kernel⟩, List.mem_of_getElem? (i := 256) (by decide +kernel), List.mem_of_getElem? (i := 702) (by decide +kernel), List.mem_of_getElem? (i := 703) (by decide +kernel)⟩
theorem lw_p12 : lw_okq (⟨"TornFringes$Lay", "follow", "(LTornFringes$Chart;II)V"⟩, 10) := ⟨⟨by decide +kernel, by decide +kernel⟩, List.mem_of_getElem? (i := 106) (by decide +kernel), List.mem_of_getElem? (i := 706) (by decide +kernel), List.mem_of_getElem? (i := 707) (by decide +kernel)⟩
theorem lw_p13 : lw_okq (⟨"TornFringes$Lay", "bestNotLaid", "(LTornFringes$Chart;)I"⟩, 10) := ⟨⟨by decide +kernel, by decide +kernel⟩, List.mem_of_getElem? (i := 106) (by decide +kernel), List.mem_of_getElem? (i := 711) (by decide +kernel), List.mem_of_getElem? (i := 712) (by decide +kernel)⟩
theorem lw_p14 : lw_okq (⟨"TornFringes$Lay", "openIsle", "(LTornFringes$Chart;I)V"⟩, 10) := ⟨⟨by decide +kernel, by decide +kernel⟩, List.mem_of_getElem? (i := 106) (by decide +kernel), List.mem_of_getElem? (i := 716) (by decide +kernel), List.mem_of_getElem? (i := 717) (by decide +kernel)⟩
theorem lw_p15 : lw_okq (⟨"TornFringes$Whole", "differs", "(I)Z"⟩, 3) := ⟨⟨by decide +kernel, by decide +kernel⟩, List.mem_of_getElem? (i := 26) (by decide +kernel), List.mem_of_getElem? (i := 732) (by decide +kernel), List.mem_of_getElem? (i := 733) (by decide +kernel)⟩
def lw_privs_1 : List (MethodName × Nat) := [(⟨"TornFringes", "gradeBy", "(II)I"⟩, 14), (⟨"TornFringes", "draw", "(I)I"⟩, 14), (⟨"TornFringes$Pairing", "pairNearest", "(LTornFringes$Chart;)V"⟩, 5), (⟨"TornFringes$Pairing", "pairAtFar", "(LTornFringes$Chart;II)V"⟩, 5), (⟨"TornFringes$Pairing", "pairLeast", "(LTornFringes$Chart;)V"⟩, 5), (⟨"TornFringes$Pairing", "leastMate", "(LTornFringes$Chart;II)I"⟩, 5), (⟨"TornFringes$Joining", "cutToBorder", "(LTornFringes$Chart;I)V"⟩, 5), (⟨"TornFringes$Joining", "goAlongColumn", "(LTornFringes$Chart;III)V"⟩, 5), (⟨"TornFringes$Joining", "goAlongRow", "(LTornFringes$Chart;III)V"⟩, 5), (⟨"TornFringes$Joining", "cutBetween", "(LTornFringes$Chart;II)V"⟩, 5), (⟨"TornFringes$Front", "offer", "(III)V"⟩, 5), (⟨"TornFringes$Front", "isBetter", "(II)Z"⟩, 5), (⟨"TornFringes$Lay", "follow", "(LTornFringes$Chart;II)V"⟩, 10), (⟨"TornFringes$Lay", "bestNotLaid", "(LTornFringes$Chart;)I"⟩, 10), (⟨"TornFringes$Lay", "openIsle", "(LTornFringes$Chart;I)V"⟩, 10), (⟨"TornFringes$Whole", "differs", "(I)Z"⟩, 3)]
theorem lw_r1 : ∀ q ∈ lw_privs_1, lw_okq q := List.forall_mem_cons.mpr ⟨lw_p0, List.forall_mem_cons.mpr ⟨lw_p1, List.forall_mem_cons.mpr ⟨lw_p2, List.forall_mem_cons.mpr ⟨lw_p3, List.forall_mem_cons.mpr ⟨lw_p4, List.forall_mem_cons.mpr ⟨lw_p5, List.forall_mem_cons.mpr ⟨lw_p6, List.forall_mem_cons.mpr ⟨lw_p7, List.forall_mem_cons.mpr ⟨lw_p8, List.forall_mem_cons.mpr ⟨lw_p9, List.forall_mem_cons.mpr ⟨lw_p10, List.forall_mem_cons.mpr ⟨lw_p11, List.forall_mem_cons.mpr ⟨lw_p12, List.forall_mem_cons.mpr ⟨lw_p13, List.forall_mem_cons.mpr ⟨lw_p14, List.forall_mem_cons.mpr ⟨lw_p15, fun _ h => absurd h List.not_mem_nil⟩⟩⟩⟩⟩⟩⟩⟩⟩⟩⟩⟩⟩⟩⟩⟩
theorem lw_p16 : lw_okq (⟨"TornFringes$Seams", "gatherEdge", "(LTornFringes$Chart;LTornFringes$Lay;II)V"⟩, 6) := ⟨⟨by decide +kernel, by decide +kernel⟩, List.mem_of_getElem? (i := 280) (by decide +kernel), List.mem_of_getElem? (i := 776) (by decide +kernel), List.mem_of_getElem? (i := 777) (by decide +kernel)⟩
theorem lw_p17 : lw_okq (⟨"TornFringes$Seams", "insert", "(II)V"⟩, 6) := ⟨⟨by decide +kernel, by decide +kernel⟩, List.mem_of_getElem? (i := 280) (by decide +kernel), List.mem_of_getElem? (i := 790) (by decide +kernel), List.mem_of_getElem? (i := 791) (by decide +kernel)⟩
theorem lw_p18 : lw_okq (⟨"TornFringes$Seams", "findBest", "()I"⟩, 6) := ⟨⟨by decide +kernel, by decide +kernel⟩, List.mem_of_getElem? (i := 280) (by decide +kernel), List.mem_of_getElem? (i := 794) (by decide +kernel), List.mem_of_getElem? (i := 795) (by decide +kernel)⟩
theorem lw_p19 : lw_okq (⟨"TornFringes$Seams", "endOfPair", "(II)I"⟩, 6) := ⟨⟨by decide +kernel, by decide +kernel⟩, List.mem_of_getElem? (i := 280) (by decide +kernel), List.mem_of_getElem? (i := 798) (by decide +kernel), List.mem_of_getElem? (i := 799) (by decide +kernel)⟩
theorem lw_p20 : lw_okq (⟨"TornFringes$Seams", "fitWithin", "(III)V"⟩, 6) := ⟨⟨by decide +kernel, by decide +kernel⟩, List.mem_of_getElem? (i := 280) (by decide +kernel), List.mem_of_getElem? (i := 802) (by decide +kernel), List.mem_of_getElem? (i := 803) (by decide +kernel)⟩
theorem lw_p21 : lw_okq (⟨"TornFringes$Seams", "liftGroup", "(LTornFringes$Chart;LTornFringes$Lay;I)Z"⟩, 6) := ⟨⟨by decide +kernel, by decide +kernel⟩, List.mem_of_getElem? (i := 280) (by decide +kernel), List.mem_of_getElem? (i := 810) (by decide +kernel), List.mem_of_getElem? (i := 811) (by decide +kernel)⟩
theorem lw_p22 : lw_okq (⟨"TornFringes$Seams", "unite", "(LTornFringes$Lay;II)V"⟩, 6) := ⟨⟨by decide +kernel, by decide +kernel⟩, List.mem_of_getElem? (i := 280) (by decide +kernel), List.mem_of_getElem? (i := 816) (by decide +kernel), List.mem_of_getElem? (i := 817) (by decide +kernel)⟩
theorem lw_p23 : lw_okq (⟨"TornFringes$Tape", "canStand", "(II)Z"⟩, 4) := ⟨⟨by decide +kernel, by decide +kernel⟩, List.mem_of_getElem? (i := 210) (by decide +kernel), List.mem_of_getElem? (i := 843) (by decide +kernel), List.mem_of_getElem? (i := 844) (by decide +kernel)⟩
theorem lw_p24 : lw_okq (⟨"TornFringes$Areas", "clearFrom", "(LTornFringes$Chart;I)I"⟩, 6) := ⟨⟨by decide +kernel, by decide +kernel⟩, List.mem_of_getElem? (i := 307) (by decide +kernel), List.mem_of_getElem? (i := 995) (by decide +kernel), List.mem_of_getElem? (i := 996) (by decide +kernel)⟩
theorem lw_p25 : lw_okq (⟨"TornFringes$Areas", "push", "(I)V"⟩, 6) := ⟨⟨by decide +kernel, by decide +kernel⟩, List.mem_of_getElem? (i := 307) (by decide +kernel), List.mem_of_getElem? (i := 999) (by decide +kernel), List.mem_of_getElem? (i := 1000) (by decide +kernel)⟩
theorem lw_p26 : lw_okq (⟨"TornFringes", "floodInThought", "()V"⟩, 14) := ⟨⟨by decide +kernel, by decide +kernel⟩, List.mem_of_getElem? (i := 18) (by decide +kernel), List.mem_of_getElem? (i := 1021) (by decide +kernel), List.mem_of_getElem? (i := 1022) (by decide +kernel)⟩
theorem lw_p27 : lw_okq (⟨"TornFringes", "takeImage", "()V"⟩, 14) := ⟨⟨by decide +kernel, by decide +kernel⟩, List.mem_of_getElem? (i := 18) (by decide +kernel), List.mem_of_getElem? (i := 1063) (by decide +kernel), List.mem_of_getElem? (i := 1064) (by decide +kernel)⟩
theorem lw_p28 : lw_okq (⟨"TornFringesModel", "logs", "(III)V"⟩, 28) := ⟨⟨by decide +kernel, by decide +kernel⟩, List.mem_of_getElem? (i := 1089) (by decide +kernel), List.mem_of_getElem? (i := 1184) (by decide +kernel), List.mem_of_getElem? (i := 1185) (by decide +kernel)⟩
theorem lw_p29 : lw_okq (⟨"TornFringesModel", "isIn", "(III)Z"⟩, 28) := ⟨⟨by decide +kernel, by decide +kernel⟩, List.mem_of_getElem? (i := 1089) (by decide +kernel), List.mem_of_getElem? (i := 1192) (by decide +kernel), List.mem_of_getElem? (i := 1193) (by decide +kernel)⟩
theorem lw_p30 : lw_okq (⟨"TornFringesModel", "keepsAct", "()V"⟩, 28) := ⟨⟨by decide +kernel, by decide +kernel⟩, List.mem_of_getElem? (i := 1089) (by decide +kernel), List.mem_of_getElem? (i := 1196) (by decide +kernel), List.mem_of_getElem? (i := 1197) (by decide +kernel)⟩
theorem lw_p31 : lw_okq (⟨"TornFringesModel", "sizes", "(II)V"⟩, 28) := ⟨⟨by decide +kernel, by decide +kernel⟩, List.mem_of_getElem? (i := 1089) (by decide +kernel), List.mem_of_getElem? (i := 1200) (by decide +kernel), List.mem_of_getElem? (i := 1201) (by decide +kernel)⟩
def lw_privs_2 : List (MethodName × Nat) := [(⟨"TornFringes$Seams", "gatherEdge", "(LTornFringes$Chart;LTornFringes$Lay;II)V"⟩, 6), (⟨"TornFringes$Seams", "insert", "(II)V"⟩, 6), (⟨"TornFringes$Seams", "findBest", "()I"⟩, 6), (⟨"TornFringes$Seams", "endOfPair", "(II)I"⟩, 6), (⟨"TornFringes$Seams", "fitWithin", "(III)V"⟩, 6), (⟨"TornFringes$Seams", "liftGroup", "(LTornFringes$Chart;LTornFringes$Lay;I)Z"⟩, 6), (⟨"TornFringes$Seams", "unite", "(LTornFringes$Lay;II)V"⟩, 6), (⟨"TornFringes$Tape", "canStand", "(II)Z"⟩, 4), (⟨"TornFringes$Areas", "clearFrom", "(LTornFringes$Chart;I)I"⟩, 6), (⟨"TornFringes$Areas", "push", "(I)V"⟩, 6), (⟨"TornFringes", "floodInThought", "()V"⟩, 14), (⟨"TornFringes", "takeImage", "()V"⟩, 14), (⟨"TornFringesModel", "logs", "(III)V"⟩, 28), (⟨"TornFringesModel", "isIn", "(III)Z"⟩, 28), (⟨"TornFringesModel", "keepsAct", "()V"⟩, 28), (⟨"TornFringesModel", "sizes", "(II)V"⟩, 28)]
theorem lw_r2 : ∀ q ∈ lw_privs_2, lw_okq q := List.forall_mem_cons.mpr ⟨lw_p16, List.forall_mem_cons.mpr ⟨lw_p17, List.forall_mem_cons.mpr ⟨lw_p18, List.forall_mem_cons.mpr ⟨lw_p19, List.forall_mem_cons.mpr ⟨lw_p20, List.forall_mem_cons.mpr ⟨lw_p21, List.forall_mem_cons.mpr ⟨lw_p22, List.forall_mem_cons.mpr ⟨lw_p23, List.forall_mem_cons.mpr ⟨lw_p24, List.forall_mem_cons.mpr ⟨lw_p25, List.forall_mem_cons.mpr ⟨lw_p26, List.forall_mem_cons.mpr ⟨lw_p27, List.forall_mem_cons.mpr ⟨lw_p28, List.forall_mem_cons.mpr ⟨lw_p29, List.forall_mem_cons.mpr ⟨lw_p30, List.forall_mem_cons.mpr ⟨lw_p31, fun _ h => absurd h List.not_mem_nil⟩⟩⟩⟩⟩⟩⟩⟩⟩⟩⟩⟩⟩⟩⟩⟩
theorem lw_p32 : lw_okq (⟨"TornFringesModel", "isPixel", "(I)Z"⟩, 28) := ⟨⟨by decide +kernel, by decide +kernel⟩, List.mem_of_getElem? (i := 1089) (by decide +kernel), List.mem_of_getElem? (i := 1208) (by decide +kernel), List.mem_of_getElem? (i := 1209) (by decide +kernel)⟩
theorem lw_p33 : lw_okq (⟨"TornFringesModel", "many", "()I"⟩, 28) := ⟨⟨by decide +kernel, by decide +kernel⟩, List.mem_of_getElem? (i := 1089) (by decide +kernel), List.mem_of_getElem? (i := 1212) (by decide +kernel), List.mem_of_getElem? (i := 1213) (by decide +kernel)⟩
theorem lw_p34 : lw_okq (⟨"TornFringesModel", "rows", "()I"⟩, 28) := ⟨⟨by decide +kernel, by decide +kernel⟩, List.mem_of_getElem? (i := 1089) (by decide +kernel), List.mem_of_getElem? (i := 1216) (by decide +kernel), List.mem_of_getElem? (i := 1217) (by decide +kernel)⟩
theorem lw_p35 : lw_okq (⟨"TornFringesModel", "cols", "()I"⟩, 28) := ⟨⟨by decide +kernel, by decide +kernel⟩, List.mem_of_getElem? (i := 1089) (by decide +kernel), List.mem_of_getElem? (i := 1220) (by decide +kernel), List.mem_of_getElem? (i := 1221) (by decide +kernel)⟩
theorem lw_p36 : lw_okq (⟨"TornFringesModel", "changes", "()V"⟩, 28) := ⟨⟨by decide +kernel, by decide +kernel⟩, List.mem_of_getElem? (i := 1089) (by decide +kernel), List.mem_of_getElem? (i := 1224) (by decide +kernel), List.mem_of_getElem? (i := 1225) (by decide +kernel)⟩
theorem lw_p37 : lw_okq (⟨"TornFringesModel", "clearsFlood", "()V"⟩, 28) := ⟨⟨by decide +kernel, by decide +kernel⟩, List.mem_of_getElem? (i := 1089) (by decide +kernel), List.mem_of_getElem? (i := 1228) (by decide +kernel), List.mem_of_getElem? (i := 1229) (by decide +kernel)⟩
theorem lw_p38 : lw_okq (⟨"TornFringesModel", "wrapped", "(J)I"⟩, 28) := ⟨⟨by decide +kernel, by decide +kernel⟩, List.mem_of_getElem? (i := 1089) (by decide +kernel), List.mem_of_getElem? (i := 1232) (by decide +kernel), List.mem_of_getElem? (i := 1233) (by decide +kernel)⟩
theorem lw_p39 : lw_okq (⟨"TornFringesModel", "phaseOf", "(I)I"⟩, 28) := ⟨⟨by decide +kernel, by decide +kernel⟩, List.mem_of_getElem? (i := 1089) (by decide +kernel), List.mem_of_getElem? (i := 1237) (by decide +kernel), List.mem_of_getElem? (i := 1238) (by decide +kernel)⟩
theorem lw_p40 : lw_okq (⟨"TornFringesModel", "isHidden", "(I)Z"⟩, 28) := ⟨⟨by decide +kernel, by decide +kernel⟩, List.mem_of_getElem? (i := 1089) (by decide +kernel), List.mem_of_getElem? (i := 1245) (by decide +kernel), List.mem_of_getElem? (i := 1246) (by decide +kernel)⟩
theorem lw_p41 : lw_okq (⟨"TornFringesModel", "gradeBySteps", "(I)I"⟩, 28) := ⟨⟨by decide +kernel, by decide +kernel⟩, List.mem_of_getElem? (i := 1089) (by decide +kernel), List.mem_of_getElem? (i := 1257) (by decide +kernel), List.mem_of_getElem? (i := 1258) (by decide +kernel)⟩
theorem lw_p42 : lw_okq (⟨"TornFringesModel", "beside", "(II)I"⟩, 28) := ⟨⟨by decide +kernel, by decide +kernel⟩, List.mem_of_getElem? (i := 1089) (by decide +kernel), List.mem_of_getElem? (i := 1261) (by decide +kernel), List.mem_of_getElem? (i := 1262) (by decide +kernel)⟩
theorem lw_p43 : lw_okq (⟨"TornFringesModel", "colOf", "(I)I"⟩, 28) := ⟨⟨by decide +kernel, by decide +kernel⟩, List.mem_of_getElem? (i := 1089) (by decide +kernel), List.mem_of_getElem? (i := 1265) (by decide +kernel), List.mem_of_getElem? (i := 1266) (by decide +kernel)⟩
theorem lw_p44 : lw_okq (⟨"TornFringesModel", "rowOf", "(I)I"⟩, 28) := ⟨⟨by decide +kernel, by decide +kernel⟩, List.mem_of_getElem? (i := 1089) (by decide +kernel), List.mem_of_getElem? (i := 1269) (by decide +kernel), List.mem_of_getElem? (i := 1270) (by decide +kernel)⟩
theorem lw_p45 : lw_okq (⟨"TornFringesModel", "stepOf", "(II)I"⟩, 28) := ⟨⟨by decide +kernel, by decide +kernel⟩, List.mem_of_getElem? (i := 1089) (by decide +kernel), List.mem_of_getElem? (i := 1273) (by decide +kernel), List.mem_of_getElem? (i := 1274) (by decide +kernel)⟩
theorem lw_p46 : lw_okq (⟨"TornFringesModel", "abs", "(I)I"⟩, 28) := ⟨⟨by decide +kernel, by decide +kernel⟩, List.mem_of_getElem? (i := 1089) (by decide +kernel), List.mem_of_getElem? (i := 1277) (by decide +kernel), List.mem_of_getElem? (i := 1278) (by decide +kernel)⟩
theorem lw_p47 : lw_okq (⟨"TornFringesModel", "gradeByTorn", "(I)I"⟩, 28) := ⟨⟨by decide +kernel, by decide +kernel⟩, List.mem_of_getElem? (i := 1089) (by decide +kernel), List.mem_of_getElem? (i := 1281) (by decide +kernel), List.mem_of_getElem? (i := 1282) (by decide +kernel)⟩
def lw_privs_3 : List (MethodName × Nat) := [(⟨"TornFringesModel", "isPixel", "(I)Z"⟩, 28), (⟨"TornFringesModel", "many", "()I"⟩, 28), (⟨"TornFringesModel", "rows", "()I"⟩, 28), (⟨"TornFringesModel", "cols", "()I"⟩, 28), (⟨"TornFringesModel", "changes", "()V"⟩, 28), (⟨"TornFringesModel", "clearsFlood", "()V"⟩, 28), (⟨"TornFringesModel", "wrapped", "(J)I"⟩, 28), (⟨"TornFringesModel", "phaseOf", "(I)I"⟩, 28), (⟨"TornFringesModel", "isHidden", "(I)Z"⟩, 28), (⟨"TornFringesModel", "gradeBySteps", "(I)I"⟩, 28), (⟨"TornFringesModel", "beside", "(II)I"⟩, 28), (⟨"TornFringesModel", "colOf", "(I)I"⟩, 28), (⟨"TornFringesModel", "rowOf", "(I)I"⟩, 28), (⟨"TornFringesModel", "stepOf", "(II)I"⟩, 28), (⟨"TornFringesModel", "abs", "(I)I"⟩, 28), (⟨"TornFringesModel", "gradeByTorn", "(I)I"⟩, 28)]
theorem lw_r3 : ∀ q ∈ lw_privs_3, lw_okq q := List.forall_mem_cons.mpr ⟨lw_p32, List.forall_mem_cons.mpr ⟨lw_p33, List.forall_mem_cons.mpr ⟨lw_p34, List.forall_mem_cons.mpr ⟨lw_p35, List.forall_mem_cons.mpr ⟨lw_p36, List.forall_mem_cons.mpr ⟨lw_p37, List.forall_mem_cons.mpr ⟨lw_p38, List.forall_mem_cons.mpr ⟨lw_p39, List.forall_mem_cons.mpr ⟨lw_p40, List.forall_mem_cons.mpr ⟨lw_p41, List.forall_mem_cons.mpr ⟨lw_p42, List.forall_mem_cons.mpr ⟨lw_p43, List.forall_mem_cons.mpr ⟨lw_p44, List.forall_mem_cons.mpr ⟨lw_p45, List.forall_mem_cons.mpr ⟨lw_p46, List.forall_mem_cons.mpr ⟨lw_p47, fun _ h => absurd h List.not_mem_nil⟩⟩⟩⟩⟩⟩⟩⟩⟩⟩⟩⟩⟩⟩⟩⟩
theorem lw_p48 : lw_okq (⟨"TornFringesModel", "chargeOf", "(I)I"⟩, 28) := ⟨⟨by decide +kernel, by decide +kernel⟩, List.mem_of_getElem? (i := 1089) (by decide +kernel), List.mem_of_getElem? (i := 1285) (by decide +kernel), List.mem_of_getElem? (i := 1286) (by decide +kernel)⟩
theorem lw_p49 : lw_okq (⟨"TornFringesModel", "isRing", "(I)Z"⟩, 28) := ⟨⟨by decide +kernel, by decide +kernel⟩, List.mem_of_getElem? (i := 1089) (by decide +kernel), List.mem_of_getElem? (i := 1289) (by decide +kernel), List.mem_of_getElem? (i := 1290) (by decide +kernel)⟩
theorem lw_p50 : lw_okq (⟨"TornFringesModel", "farOf", "(II)I"⟩, 28) := ⟨⟨by decide +kernel, by decide +kernel⟩, List.mem_of_getElem? (i := 1089) (by decide +kernel), List.mem_of_getElem? (i := 1293) (by decide +kernel), List.mem_of_getElem? (i := 1294) (by decide +kernel)⟩
theorem lw_p51 : lw_okq (⟨"TornFringesModel", "draw", "(I)I"⟩, 28) := ⟨⟨by decide +kernel, by decide +kernel⟩, List.mem_of_getElem? (i := 1089) (by decide +kernel), List.mem_of_getElem? (i := 1305) (by decide +kernel), List.mem_of_getElem? (i := 1306) (by decide +kernel)⟩
theorem lw_p52 : lw_okq (⟨"TornFringesModel", "canJoin", "(I)Z"⟩, 28) := ⟨⟨by decide +kernel, by decide +kernel⟩, List.mem_of_getElem? (i := 1089) (by decide +kernel), List.mem_of_getElem? (i := 1319) (by decide +kernel), List.mem_of_getElem? (i := 1320) (by decide +kernel)⟩
theorem lw_p53 : lw_okq (⟨"TornFringesModel", "laysTorn", "()V"⟩, 28) := ⟨⟨by decide +kernel, by decide +kernel⟩, List.mem_of_getElem? (i := 1089) (by decide +kernel), List.mem_of_getElem? (i := 1323) (by decide +kernel), List.mem_of_getElem? (i := 1324) (by decide +kernel)⟩
theorem lw_p54 : lw_okq (⟨"TornFringesModel", "joinsBy", "(I)I"⟩, 28) := ⟨⟨by decide +kernel, by decide +kernel⟩, List.mem_of_getElem? (i := 1089) (by decide +kernel), List.mem_of_getElem? (i := 1327) (by decide +kernel), List.mem_of_getElem? (i := 1328) (by decide +kernel)⟩
theorem lw_p55 : lw_okq (⟨"TornFringesModel", "joinsLeast", "()V"⟩, 28) := ⟨⟨by decide +kernel, by decide +kernel⟩, List.mem_of_getElem? (i := 1089) (by decide +kernel), List.mem_of_getElem? (i := 1331) (by decide +kernel), List.mem_of_getElem? (i := 1332) (by decide +kernel)⟩
theorem lw_p56 : lw_okq (⟨"TornFringesModel", "laysLeast", "()V"⟩, 28) := ⟨⟨by decide +kernel, by decide +kernel⟩, List.mem_of_getElem? (i := 1089) (by decide +kernel), List.mem_of_getElem? (i := 1335) (by decide +kernel), List.mem_of_getElem? (i := 1336) (by decide +kernel)⟩
theorem lw_p57 : lw_okq (⟨"TornFringesModel", "farToBorder", "(I)I"⟩, 28) := ⟨⟨by decide +kernel, by decide +kernel⟩, List.mem_of_getElem? (i := 1089) (by decide +kernel), List.mem_of_getElem? (i := 1339) (by decide +kernel), List.mem_of_getElem? (i := 1340) (by decide +kernel)⟩
theorem lw_p58 : lw_okq (⟨"TornFringesModel", "nearestSide", "(I)I"⟩, 28) := ⟨⟨by decide +kernel, by decide +kernel⟩, List.mem_of_getElem? (i := 1089) (by decide +kernel), List.mem_of_getElem? (i := 1343) (by decide +kernel), List.mem_of_getElem? (i := 1344) (by decide +kernel)⟩
theorem lw_p59 : lw_okq (⟨"TornFringesModel", "toSide", "(II)I"⟩, 28) := ⟨⟨by decide +kernel, by decide +kernel⟩, List.mem_of_getElem? (i := 1089) (by decide +kernel), List.mem_of_getElem? (i := 1347) (by decide +kernel), List.mem_of_getElem? (i := 1348) (by decide +kernel)⟩
theorem lw_p60 : lw_okq (⟨"TornFringesModel", "areUnlike", "(II)Z"⟩, 28) := ⟨⟨by decide +kernel, by decide +kernel⟩, List.mem_of_getElem? (i := 1089) (by decide +kernel), List.mem_of_getElem? (i := 1351) (by decide +kernel), List.mem_of_getElem? (i := 1352) (by decide +kernel)⟩
theorem lw_p61 : lw_okq (⟨"TornFringesModel", "joinsNearest", "()V"⟩, 28) := ⟨⟨by decide +kernel, by decide +kernel⟩, List.mem_of_getElem? (i := 1089) (by decide +kernel), List.mem_of_getElem? (i := 1355) (by decide +kernel), List.mem_of_getElem? (i := 1356) (by decide +kernel)⟩
theorem lw_p62 : lw_okq (⟨"TornFringesModel", "cutsOut", "(II)V"⟩, 28) := ⟨⟨by decide +kernel, by decide +kernel⟩, List.mem_of_getElem? (i := 1089) (by decide +kernel), List.mem_of_getElem? (i := 1360) (by decide +kernel), List.mem_of_getElem? (i := 1361) (by decide +kernel)⟩
theorem lw_p63 : lw_okq (⟨"TornFringesModel", "cutsOver", "(I)V"⟩, 28) := ⟨⟨by decide +kernel, by decide +kernel⟩, List.mem_of_getElem? (i := 1089) (by decide +kernel), List.mem_of_getElem? (i := 1364) (by decide +kernel), List.mem_of_getElem? (i := 1365) (by decide +kernel)⟩
def lw_privs_4 : List (MethodName × Nat) := [(⟨"TornFringesModel", "chargeOf", "(I)I"⟩, 28), (⟨"TornFringesModel", "isRing", "(I)Z"⟩, 28), (⟨"TornFringesModel", "farOf", "(II)I"⟩, 28), (⟨"TornFringesModel", "draw", "(I)I"⟩, 28), (⟨"TornFringesModel", "canJoin", "(I)Z"⟩, 28), (⟨"TornFringesModel", "laysTorn", "()V"⟩, 28), (⟨"TornFringesModel", "joinsBy", "(I)I"⟩, 28), (⟨"TornFringesModel", "joinsLeast", "()V"⟩, 28), (⟨"TornFringesModel", "laysLeast", "()V"⟩, 28), (⟨"TornFringesModel", "farToBorder", "(I)I"⟩, 28), (⟨"TornFringesModel", "nearestSide", "(I)I"⟩, 28), (⟨"TornFringesModel", "toSide", "(II)I"⟩, 28), (⟨"TornFringesModel", "areUnlike", "(II)Z"⟩, 28), (⟨"TornFringesModel", "joinsNearest", "()V"⟩, 28), (⟨"TornFringesModel", "cutsOut", "(II)V"⟩, 28), (⟨"TornFringesModel", "cutsOver", "(I)V"⟩, 28)]
theorem lw_r4 : ∀ q ∈ lw_privs_4, lw_okq q := List.forall_mem_cons.mpr ⟨lw_p48, List.forall_mem_cons.mpr ⟨lw_p49, List.forall_mem_cons.mpr ⟨lw_p50, List.forall_mem_cons.mpr ⟨lw_p51, List.forall_mem_cons.mpr ⟨lw_p52, List.forall_mem_cons.mpr ⟨lw_p53, List.forall_mem_cons.mpr ⟨lw_p54, List.forall_mem_cons.mpr ⟨lw_p55, List.forall_mem_cons.mpr ⟨lw_p56, List.forall_mem_cons.mpr ⟨lw_p57, List.forall_mem_cons.mpr ⟨lw_p58, List.forall_mem_cons.mpr ⟨lw_p59, List.forall_mem_cons.mpr ⟨lw_p60, List.forall_mem_cons.mpr ⟨lw_p61, List.forall_mem_cons.mpr ⟨lw_p62, List.forall_mem_cons.mpr ⟨lw_p63, fun _ h => absurd h List.not_mem_nil⟩⟩⟩⟩⟩⟩⟩⟩⟩⟩⟩⟩⟩⟩⟩⟩
theorem lw_p64 : lw_okq (⟨"TornFringesModel", "cutsTo", "(II)V"⟩, 28) := ⟨⟨by decide +kernel, by decide +kernel⟩, List.mem_of_getElem? (i := 1089) (by decide +kernel), List.mem_of_getElem? (i := 1368) (by decide +kernel), List.mem_of_getElem? (i := 1369) (by decide +kernel)⟩
theorem lw_p65 : lw_okq (⟨"TornFringesModel", "isEdge", "(I)Z"⟩, 28) := ⟨⟨by decide +kernel, by decide +kernel⟩, List.mem_of_getElem? (i := 1089) (by decide +kernel), List.mem_of_getElem? (i := 1376) (by decide +kernel), List.mem_of_getElem? (i := 1377) (by decide +kernel)⟩
theorem lw_p66 : lw_okq (⟨"TornFringesModel", "toBeLaid", "()I"⟩, 28) := ⟨⟨by decide +kernel, by decide +kernel⟩, List.mem_of_getElem? (i := 1089) (by decide +kernel), List.mem_of_getElem? (i := 1384) (by decide +kernel), List.mem_of_getElem? (i := 1385) (by decide +kernel)⟩
theorem lw_p67 : lw_okq (⟨"TornFringesModel", "isLaid", "(I)Z"⟩, 28) := ⟨⟨by decide +kernel, by decide +kernel⟩, List.mem_of_getElem? (i := 1089) (by decide +kernel), List.mem_of_getElem? (i := 1388) (by decide +kernel), List.mem_of_getElem? (i := 1389) (by decide +kernel)⟩
theorem lw_p68 : lw_okq (⟨"TornFringesModel", "moves", "()Z"⟩, 28) := ⟨⟨by decide +kernel, by decide +kernel⟩, List.mem_of_getElem? (i := 1089) (by decide +kernel), List.mem_of_getElem? (i := 1396) (by decide +kernel), List.mem_of_getElem? (i := 1397) (by decide +kernel)⟩
theorem lw_p69 : lw_okq (⟨"TornFringesModel", "edgeTo", "(II)I"⟩, 28) := ⟨⟨by decide +kernel, by decide +kernel⟩, List.mem_of_getElem? (i := 1089) (by decide +kernel), List.mem_of_getElem? (i := 1400) (by decide +kernel), List.mem_of_getElem? (i := 1401) (by decide +kernel)⟩
theorem lw_p70 : lw_okq (⟨"TornFringesModel", "isShut", "(I)Z"⟩, 28) := ⟨⟨by decide +kernel, by decide +kernel⟩, List.mem_of_getElem? (i := 1089) (by decide +kernel), List.mem_of_getElem? (i := 1404) (by decide +kernel), List.mem_of_getElem? (i := 1405) (by decide +kernel)⟩
theorem lw_p71 : lw_okq (⟨"TornFringesModel", "lesser", "(I)I"⟩, 28) := ⟨⟨by decide +kernel, by decide +kernel⟩, List.mem_of_getElem? (i := 1089) (by decide +kernel), List.mem_of_getElem? (i := 1408) (by decide +kernel), List.mem_of_getElem? (i := 1409) (by decide +kernel)⟩
theorem lw_p72 : lw_okq (⟨"TornFringesModel", "greater", "(I)I"⟩, 28) := ⟨⟨by decide +kernel, by decide +kernel⟩, List.mem_of_getElem? (i := 1089) (by decide +kernel), List.mem_of_getElem? (i := 1412) (by decide +kernel), List.mem_of_getElem? (i := 1413) (by decide +kernel)⟩
theorem lw_p73 : lw_okq (⟨"TornFringesModel", "isCut", "(I)Z"⟩, 28) := ⟨⟨by decide +kernel, by decide +kernel⟩, List.mem_of_getElem? (i := 1089) (by decide +kernel), List.mem_of_getElem? (i := 1416) (by decide +kernel), List.mem_of_getElem? (i := 1417) (by decide +kernel)⟩
theorem lw_p74 : lw_okq (⟨"TornFringesModel", "gradeOfEdge", "(I)I"⟩, 28) := ⟨⟨by decide +kernel, by decide +kernel⟩, List.mem_of_getElem? (i := 1089) (by decide +kernel), List.mem_of_getElem? (i := 1420) (by decide +kernel), List.mem_of_getElem? (i := 1421) (by decide +kernel)⟩
theorem lw_p75 : lw_okq (⟨"TornFringesModel", "gradeOf", "(I)I"⟩, 28) := ⟨⟨by decide +kernel, by decide +kernel⟩, List.mem_of_getElem? (i := 1089) (by decide +kernel), List.mem_of_getElem? (i := 1424) (by decide +kernel), List.mem_of_getElem? (i := 1425) (by decide +kernel)⟩
theorem lw_p76 : lw_okq (⟨"TornFringesModel", "beginsIsland", "()V"⟩, 28) := ⟨⟨by decide +kernel, by decide +kernel⟩, List.mem_of_getElem? (i := 1089) (by decide +kernel), List.mem_of_getElem? (i := 1428) (by decide +kernel), List.mem_of_getElem? (i := 1429) (by decide +kernel)⟩
theorem lw_p77 : lw_okq (⟨"TornFringesModel", "lays", "(IIII)V"⟩, 28) := ⟨⟨by decide +kernel, by decide +kernel⟩, List.mem_of_getElem? (i := 1089) (by decide +kernel), List.mem_of_getElem? (i := 1432) (by decide +kernel), List.mem_of_getElem? (i := 1433) (by decide +kernel)⟩
theorem lw_p78 : lw_okq (⟨"TornFringesModel", "jumps", "()I"⟩, 28) := ⟨⟨by decide +kernel, by decide +kernel⟩, List.mem_of_getElem? (i := 1089) (by decide +kernel), List.mem_of_getElem? (i := 1436) (by decide +kernel), List.mem_of_getElem? (i := 1437) (by decide +kernel)⟩
theorem lw_p79 : lw_okq (⟨"TornFringesModel", "isJump", "(I)Z"⟩, 28) := ⟨⟨by decide +kernel, by decide +kernel⟩, List.mem_of_getElem? (i := 1089) (by decide +kernel), List.mem_of_getElem? (i := 1440) (by decide +kernel), List.mem_of_getElem? (i := 1441) (by decide +kernel)⟩
def lw_privs_5 : List (MethodName × Nat) := [(⟨"TornFringesModel", "cutsTo", "(II)V"⟩, 28), (⟨"TornFringesModel", "isEdge", "(I)Z"⟩, 28), (⟨"TornFringesModel", "toBeLaid", "()I"⟩, 28), (⟨"TornFringesModel", "isLaid", "(I)Z"⟩, 28), (⟨"TornFringesModel", "moves", "()Z"⟩, 28), (⟨"TornFringesModel", "edgeTo", "(II)I"⟩, 28), (⟨"TornFringesModel", "isShut", "(I)Z"⟩, 28), (⟨"TornFringesModel", "lesser", "(I)I"⟩, 28), (⟨"TornFringesModel", "greater", "(I)I"⟩, 28), (⟨"TornFringesModel", "isCut", "(I)Z"⟩, 28), (⟨"TornFringesModel", "gradeOfEdge", "(I)I"⟩, 28), (⟨"TornFringesModel", "gradeOf", "(I)I"⟩, 28), (⟨"TornFringesModel", "beginsIsland", "()V"⟩, 28), (⟨"TornFringesModel", "lays", "(IIII)V"⟩, 28), (⟨"TornFringesModel", "jumps", "()I"⟩, 28), (⟨"TornFringesModel", "isJump", "(I)Z"⟩, 28)]
theorem lw_r5 : ∀ q ∈ lw_privs_5, lw_okq q := List.forall_mem_cons.mpr ⟨lw_p64, List.forall_mem_cons.mpr ⟨lw_p65, List.forall_mem_cons.mpr ⟨lw_p66, List.forall_mem_cons.mpr ⟨lw_p67, List.forall_mem_cons.mpr ⟨lw_p68, List.forall_mem_cons.mpr ⟨lw_p69, List.forall_mem_cons.mpr ⟨lw_p70, List.forall_mem_cons.mpr ⟨lw_p71, List.forall_mem_cons.mpr ⟨lw_p72, List.forall_mem_cons.mpr ⟨lw_p73, List.forall_mem_cons.mpr ⟨lw_p74, List.forall_mem_cons.mpr ⟨lw_p75, List.forall_mem_cons.mpr ⟨lw_p76, List.forall_mem_cons.mpr ⟨lw_p77, List.forall_mem_cons.mpr ⟨lw_p78, List.forall_mem_cons.mpr ⟨lw_p79, fun _ h => absurd h List.not_mem_nil⟩⟩⟩⟩⟩⟩⟩⟩⟩⟩⟩⟩⟩⟩⟩⟩
theorem lw_p80 : lw_okq (⟨"TornFringesModel", "areLaid", "(I)Z"⟩, 28) := ⟨⟨by decide +kernel, by decide +kernel⟩, List.mem_of_getElem? (i := 1089) (by decide +kernel), List.mem_of_getElem? (i := 1444) (by decide +kernel), List.mem_of_getElem? (i := 1445) (by decide +kernel)⟩
theorem lw_p81 : lw_okq (⟨"TornFringesModel", "isWrong", "(I)Z"⟩, 28) := ⟨⟨by decide +kernel, by decide +kernel⟩, List.mem_of_getElem? (i := 1089) (by decide +kernel), List.mem_of_getElem? (i := 1448) (by decide +kernel), List.mem_of_getElem? (i := 1449) (by decide +kernel)⟩
theorem lw_p82 : lw_okq (⟨"TornFringesModel", "isIsland", "(I)Z"⟩, 28) := ⟨⟨by decide +kernel, by decide +kernel⟩, List.mem_of_getElem? (i := 1089) (by decide +kernel), List.mem_of_getElem? (i := 1456) (by decide +kernel), List.mem_of_getElem? (i := 1457) (by decide +kernel)⟩
theorem lw_p83 : lw_okq (⟨"TornFringesModel", "canLift", "(II)Z"⟩, 28) := ⟨⟨by decide +kernel, by decide +kernel⟩, List.mem_of_getElem? (i := 1089) (by decide +kernel), List.mem_of_getElem? (i := 1460) (by decide +kernel), List.mem_of_getElem? (i := 1461) (by decide +kernel)⟩
theorem lw_p84 : lw_okq (⟨"TornFringesModel", "lifts", "(II)V"⟩, 28) := ⟨⟨by decide +kernel, by decide +kernel⟩, List.mem_of_getElem? (i := 1089) (by decide +kernel), List.mem_of_getElem? (i := 1464) (by decide +kernel), List.mem_of_getElem? (i := 1465) (by decide +kernel)⟩
theorem lw_p85 : lw_okq (⟨"TornFringesModel", "fits", "(II)Z"⟩, 28) := ⟨⟨by decide +kernel, by decide +kernel⟩, List.mem_of_getElem? (i := 1089) (by decide +kernel), List.mem_of_getElem? (i := 1472) (by decide +kernel), List.mem_of_getElem? (i := 1473) (by decide +kernel)⟩
theorem lw_p86 : lw_okq (⟨"TornFringesModel", "isBetween", "(III)Z"⟩, 28) := ⟨⟨by decide +kernel, by decide +kernel⟩, List.mem_of_getElem? (i := 1089) (by decide +kernel), List.mem_of_getElem? (i := 1476) (by decide +kernel), List.mem_of_getElem? (i := 1477) (by decide +kernel)⟩
theorem lw_p87 : lw_okq (⟨"TornFringesModel", "lackAt", "(II)I"⟩, 28) := ⟨⟨by decide +kernel, by decide +kernel⟩, List.mem_of_getElem? (i := 1089) (by decide +kernel), List.mem_of_getElem? (i := 1480) (by decide +kernel), List.mem_of_getElem? (i := 1481) (by decide +kernel)⟩
theorem lw_p88 : lw_okq (⟨"TornFringesModel", "isNearer", "(II)Z"⟩, 28) := ⟨⟨by decide +kernel, by decide +kernel⟩, List.mem_of_getElem? (i := 1089) (by decide +kernel), List.mem_of_getElem? (i := 1484) (by decide +kernel), List.mem_of_getElem? (i := 1485) (by decide +kernel)⟩
theorem lw_p89 : lw_okq (⟨"TornFringesModel", "settles", "()I"⟩, 28) := ⟨⟨by decide +kernel, by decide +kernel⟩, List.mem_of_getElem? (i := 1089) (by decide +kernel), List.mem_of_getElem? (i := 1493) (by decide +kernel), List.mem_of_getElem? (i := 1494) (by decide +kernel)⟩
theorem lw_p90 : lw_okq (⟨"TornFringesModel", "changesPlaces", "()V"⟩, 28) := ⟨⟨by decide +kernel, by decide +kernel⟩, List.mem_of_getElem? (i := 1089) (by decide +kernel), List.mem_of_getElem? (i := 1497) (by decide +kernel), List.mem_of_getElem? (i := 1498) (by decide +kernel)⟩
theorem lw_p91 : lw_okq (⟨"TornFringesModel", "types", "(I)V"⟩, 28) := ⟨⟨by decide +kernel, by decide +kernel⟩, List.mem_of_getElem? (i := 1089) (by decide +kernel), List.mem_of_getElem? (i := 1505) (by decide +kernel), List.mem_of_getElem? (i := 1506) (by decide +kernel)⟩
theorem lw_p92 : lw_okq (⟨"TornFringesModel", "reads", "(I)I"⟩, 28) := ⟨⟨by decide +kernel, by decide +kernel⟩, List.mem_of_getElem? (i := 1089) (by decide +kernel), List.mem_of_getElem? (i := 1517) (by decide +kernel), List.mem_of_getElem? (i := 1518) (by decide +kernel)⟩
theorem lw_p93 : lw_okq (⟨"TornFringesModel", "hexOf", "(I)I"⟩, 28) := ⟨⟨by decide +kernel, by decide +kernel⟩, List.mem_of_getElem? (i := 1089) (by decide +kernel), List.mem_of_getElem? (i := 1521) (by decide +kernel), List.mem_of_getElem? (i := 1522) (by decide +kernel)⟩
theorem lw_p94 : lw_okq (⟨"TornFringesModel", "backMany", "(I)I"⟩, 28) := ⟨⟨by decide +kernel, by decide +kernel⟩, List.mem_of_getElem? (i := 1089) (by decide +kernel), List.mem_of_getElem? (i := 1533) (by decide +kernel), List.mem_of_getElem? (i := 1534) (by decide +kernel)⟩
theorem lw_p95 : lw_okq (⟨"TornFringesModel", "isTear", "(I)Z"⟩, 28) := ⟨⟨by decide +kernel, by decide +kernel⟩, List.mem_of_getElem? (i := 1089) (by decide +kernel), List.mem_of_getElem? (i := 1546) (by decide +kernel), List.mem_of_getElem? (i := 1547) (by decide +kernel)⟩
def lw_privs_6 : List (MethodName × Nat) := [(⟨"TornFringesModel", "areLaid", "(I)Z"⟩, 28), (⟨"TornFringesModel", "isWrong", "(I)Z"⟩, 28), (⟨"TornFringesModel", "isIsland", "(I)Z"⟩, 28), (⟨"TornFringesModel", "canLift", "(II)Z"⟩, 28), (⟨"TornFringesModel", "lifts", "(II)V"⟩, 28), (⟨"TornFringesModel", "fits", "(II)Z"⟩, 28), (⟨"TornFringesModel", "isBetween", "(III)Z"⟩, 28), (⟨"TornFringesModel", "lackAt", "(II)I"⟩, 28), (⟨"TornFringesModel", "isNearer", "(II)Z"⟩, 28), (⟨"TornFringesModel", "settles", "()I"⟩, 28), (⟨"TornFringesModel", "changesPlaces", "()V"⟩, 28), (⟨"TornFringesModel", "types", "(I)V"⟩, 28), (⟨"TornFringesModel", "reads", "(I)I"⟩, 28), (⟨"TornFringesModel", "hexOf", "(I)I"⟩, 28), (⟨"TornFringesModel", "backMany", "(I)I"⟩, 28), (⟨"TornFringesModel", "isTear", "(I)Z"⟩, 28)]
theorem lw_r6 : ∀ q ∈ lw_privs_6, lw_okq q := List.forall_mem_cons.mpr ⟨lw_p80, List.forall_mem_cons.mpr ⟨lw_p81, List.forall_mem_cons.mpr ⟨lw_p82, List.forall_mem_cons.mpr ⟨lw_p83, List.forall_mem_cons.mpr ⟨lw_p84, List.forall_mem_cons.mpr ⟨lw_p85, List.forall_mem_cons.mpr ⟨lw_p86, List.forall_mem_cons.mpr ⟨lw_p87, List.forall_mem_cons.mpr ⟨lw_p88, List.forall_mem_cons.mpr ⟨lw_p89, List.forall_mem_cons.mpr ⟨lw_p90, List.forall_mem_cons.mpr ⟨lw_p91, List.forall_mem_cons.mpr ⟨lw_p92, List.forall_mem_cons.mpr ⟨lw_p93, List.forall_mem_cons.mpr ⟨lw_p94, List.forall_mem_cons.mpr ⟨lw_p95, fun _ h => absurd h List.not_mem_nil⟩⟩⟩⟩⟩⟩⟩⟩⟩⟩⟩⟩⟩⟩⟩⟩
theorem lw_p96 : lw_okq (⟨"TornFringesModel", "pixelsOf", "(I)I"⟩, 28) := ⟨⟨by decide +kernel, by decide +kernel⟩, List.mem_of_getElem? (i := 1089) (by decide +kernel), List.mem_of_getElem? (i := 1570) (by decide +kernel), List.mem_of_getElem? (i := 1571) (by decide +kernel)⟩
theorem lw_p97 : lw_okq (⟨"TornFringesModel", "edgesOut", "(I)I"⟩, 28) := ⟨⟨by decide +kernel, by decide +kernel⟩, List.mem_of_getElem? (i := 1089) (by decide +kernel), List.mem_of_getElem? (i := 1574) (by decide +kernel), List.mem_of_getElem? (i := 1575) (by decide +kernel)⟩
theorem lw_p98 : lw_okq (⟨"TornFringesModel", "outmost", "(Z)I"⟩, 28) := ⟨⟨by decide +kernel, by decide +kernel⟩, List.mem_of_getElem? (i := 1089) (by decide +kernel), List.mem_of_getElem? (i := 1598) (by decide +kernel), List.mem_of_getElem? (i := 1599) (by decide +kernel)⟩
theorem lw_p99 : lw_okq (⟨"TornFringesModel", "laysAreas", "(I)V"⟩, 28) := ⟨⟨by decide +kernel, by decide +kernel⟩, List.mem_of_getElem? (i := 1089) (by decide +kernel), List.mem_of_getElem? (i := 1610) (by decide +kernel), List.mem_of_getElem? (i := 1611) (by decide +kernel)⟩
theorem lw_p100 : lw_okq (⟨"TornFringesModel", "isUp", "(II)Z"⟩, 28) := ⟨⟨by decide +kernel, by decide +kernel⟩, List.mem_of_getElem? (i := 1089) (by decide +kernel), List.mem_of_getElem? (i := 1614) (by decide +kernel), List.mem_of_getElem? (i := 1615) (by decide +kernel)⟩
theorem lw_p101 : lw_okq (⟨"TornFringesModel", "pixelsIn", "(II)I"⟩, 28) := ⟨⟨by decide +kernel, by decide +kernel⟩, List.mem_of_getElem? (i := 1089) (by decide +kernel), List.mem_of_getElem? (i := 1618) (by decide +kernel), List.mem_of_getElem? (i := 1619) (by decide +kernel)⟩
theorem lw_p102 : lw_okq (⟨"TornFringesModel", "isPeak", "(I)Z"⟩, 28) := ⟨⟨by decide +kernel, by decide +kernel⟩, List.mem_of_getElem? (i := 1089) (by decide +kernel), List.mem_of_getElem? (i := 1626) (by decide +kernel), List.mem_of_getElem? (i := 1627) (by decide +kernel)⟩
theorem lw_p103 : lw_okq (⟨"TornFringesModel", "floods", "()V"⟩, 28) := ⟨⟨by decide +kernel, by decide +kernel⟩, List.mem_of_getElem? (i := 1089) (by decide +kernel), List.mem_of_getElem? (i := 1638) (by decide +kernel), List.mem_of_getElem? (i := 1639) (by decide +kernel)⟩
theorem lw_p104 : lw_okq (⟨"TornFringesModel", "tears", "()I"⟩, 28) := ⟨⟨by decide +kernel, by decide +kernel⟩, List.mem_of_getElem? (i := 1089) (by decide +kernel), List.mem_of_getElem? (i := 1642) (by decide +kernel), List.mem_of_getElem? (i := 1643) (by decide +kernel)⟩
theorem lw_p105 : lw_okq (⟨"TornFringesModel", "othersThan", "([I)I"⟩, 28) := ⟨⟨by decide +kernel, by decide +kernel⟩, List.mem_of_getElem? (i := 1089) (by decide +kernel), List.mem_of_getElem? (i := 1646) (by decide +kernel), List.mem_of_getElem? (i := 1647) (by decide +kernel)⟩
theorem lw_p106 : lw_okq (⟨"TornFringesModel", "sumOf", "(II)I"⟩, 28) := ⟨⟨by decide +kernel, by decide +kernel⟩, List.mem_of_getElem? (i := 1089) (by decide +kernel), List.mem_of_getElem? (i := 1666) (by decide +kernel), List.mem_of_getElem? (i := 1667) (by decide +kernel)⟩
theorem lw_p107 : lw_okq (⟨"TornFringesModel", "charges", "()I"⟩, 28) := ⟨⟨by decide +kernel, by decide +kernel⟩, List.mem_of_getElem? (i := 1089) (by decide +kernel), List.mem_of_getElem? (i := 1670) (by decide +kernel), List.mem_of_getElem? (i := 1671) (by decide +kernel)⟩
theorem lw_p108 : lw_okq (⟨"TornFringesModel", "cuts", "()I"⟩, 28) := ⟨⟨by decide +kernel, by decide +kernel⟩, List.mem_of_getElem? (i := 1089) (by decide +kernel), List.mem_of_getElem? (i := 1674) (by decide +kernel), List.mem_of_getElem? (i := 1675) (by decide +kernel)⟩
theorem lw_p109 : lw_okq (⟨"TornFringesModel", "laidMany", "()I"⟩, 28) := ⟨⟨by decide +kernel, by decide +kernel⟩, List.mem_of_getElem? (i := 1089) (by decide +kernel), List.mem_of_getElem? (i := 1678) (by decide +kernel), List.mem_of_getElem? (i := 1679) (by decide +kernel)⟩
def lw_privs_7 : List (MethodName × Nat) := [(⟨"TornFringesModel", "pixelsOf", "(I)I"⟩, 28), (⟨"TornFringesModel", "edgesOut", "(I)I"⟩, 28), (⟨"TornFringesModel", "outmost", "(Z)I"⟩, 28), (⟨"TornFringesModel", "laysAreas", "(I)V"⟩, 28), (⟨"TornFringesModel", "isUp", "(II)Z"⟩, 28), (⟨"TornFringesModel", "pixelsIn", "(II)I"⟩, 28), (⟨"TornFringesModel", "isPeak", "(I)Z"⟩, 28), (⟨"TornFringesModel", "floods", "()V"⟩, 28), (⟨"TornFringesModel", "tears", "()I"⟩, 28), (⟨"TornFringesModel", "othersThan", "([I)I"⟩, 28), (⟨"TornFringesModel", "sumOf", "(II)I"⟩, 28), (⟨"TornFringesModel", "charges", "()I"⟩, 28), (⟨"TornFringesModel", "cuts", "()I"⟩, 28), (⟨"TornFringesModel", "laidMany", "()I"⟩, 28)]
theorem lw_r7 : ∀ q ∈ lw_privs_7, lw_okq q := List.forall_mem_cons.mpr ⟨lw_p96, List.forall_mem_cons.mpr ⟨lw_p97, List.forall_mem_cons.mpr ⟨lw_p98, List.forall_mem_cons.mpr ⟨lw_p99, List.forall_mem_cons.mpr ⟨lw_p100, List.forall_mem_cons.mpr ⟨lw_p101, List.forall_mem_cons.mpr ⟨lw_p102, List.forall_mem_cons.mpr ⟨lw_p103, List.forall_mem_cons.mpr ⟨lw_p104, List.forall_mem_cons.mpr ⟨lw_p105, List.forall_mem_cons.mpr ⟨lw_p106, List.forall_mem_cons.mpr ⟨lw_p107, List.forall_mem_cons.mpr ⟨lw_p108, List.forall_mem_cons.mpr ⟨lw_p109, fun _ h => absurd h List.not_mem_nil⟩⟩⟩⟩⟩⟩⟩⟩⟩⟩⟩⟩⟩⟩
def lw_privs : List (MethodName × Nat) := lw_privs_1 ++ (lw_privs_2 ++ (lw_privs_3 ++ (lw_privs_4 ++ (lw_privs_5 ++ (lw_privs_6 ++ (lw_privs_7))))))
def lw_tbl : List Cond := k2_sels lw_privs ++ tables_1
theorem lw_privs_ok : ∀ q ∈ lw_privs, lw_okq q := by
  show ∀ q ∈ lw_privs_1 ++ (lw_privs_2 ++ (lw_privs_3 ++ (lw_privs_4 ++ (lw_privs_5 ++ (lw_privs_6 ++ (lw_privs_7)))))), lw_okq q
  exact List.forall_mem_append.mpr ⟨lw_r1, List.forall_mem_append.mpr ⟨lw_r2, List.forall_mem_append.mpr ⟨lw_r3, List.forall_mem_append.mpr ⟨lw_r4, List.forall_mem_append.mpr ⟨lw_r5, List.forall_mem_append.mpr ⟨lw_r6, lw_r7⟩⟩⟩⟩⟩⟩
end
section
/-! names and tables of the program, for the small machine -/
def rk0 : String := "TornFringes$Acts"
def tk0 : u_T := fun k => match k with
  | 0 => ("TornFringes$Acts", "count", "I", false)
  | 1 => ("TornFringes$Acts", "next", "I", false)
  | _ => ("TornFringes$Acts", "kept", "[LTornFringes$Whole;", true)
def rk1 : String := "TornFringes$Areas"
def tk1 : u_T := fun k => match k with
  | 0 => ("TornFringes$Areas", "count", "I", false)
  | 1 => ("TornFringes$Areas", "most", "I", false)
  | 2 => ("TornFringes$Areas", "leastPixel", "I", false)
  | 3 => ("TornFringes$Areas", "open", "[Z", true)
  | 4 => ("TornFringes$Areas", "stack", "[I", true)
  | _ => ("TornFringes$Areas", "depth", "I", false)
def rk2 : String := "TornFringes$Chart"
def tk2 : u_T := fun k => match k with
  | 0 => ("TornFringes$Chart", "rows", "I", false)
  | 1 => ("TornFringes$Chart", "cols", "I", false)
  | 2 => ("TornFringes$Chart", "phases", "[I", true)
  | 3 => ("TornFringes$Chart", "grades", "[I", true)
  | 4 => ("TornFringes$Chart", "hidden", "[Z", true)
  | _ => ("TornFringes$Chart", "byHand", "[Z", true)
def rk3 : String := "TornFringes$Front"
def tk3 : u_T := fun k => match k with
  | 0 => ("TornFringes$Front", "barred", "[Z", true)
  | 1 => ("TornFringes$Front", "via", "[I", true)
  | 2 => ("TornFringes$Front", "worth", "[I", true)
  | 3 => ("TornFringes$Front", "waiting", "[I", true)
  | _ => ("TornFringes$Front", "count", "I", false)
def rk4 : String := "TornFringes$Joining"
def tk4 : u_T := fun k => match k with
  | 0 => ("TornFringes$Joining", "count", "I", false)
  | 1 => ("TornFringes$Joining", "fars", "I", false)
  | 2 => ("TornFringes$Joining", "firsts", "[I", true)
  | 3 => ("TornFringes$Joining", "others", "[I", true)
  | _ => ("TornFringes$Joining", "over", "[I", true)
def rk5 : String := "TornFringes$Lay"
def tk5 : u_T := fun k => match k with
  | 0 => ("TornFringes$Lay", "flooding", "Z", false)
  | 1 => ("TornFringes$Lay", "awaited", "I", false)
  | 2 => ("TornFringes$Lay", "laid", "I", false)
  | 3 => ("TornFringes$Lay", "isleCount", "I", false)
  | 4 => ("TornFringes$Lay", "heights", "[I", true)
  | 5 => ("TornFringes$Lay", "froms", "[I", true)
  | 6 => ("TornFringes$Lay", "isles", "[I", true)
  | 7 => ("TornFringes$Lay", "moves", "[I", true)
  | 8 => ("TornFringes$Lay", "starts", "[I", true)
  | _ => ("TornFringes$Lay", "turns", "[I", true)
def rk6 : String := "TornFringes$Log"
def tk6 : u_T := fun k => match k with
  | 0 => ("TornFringes$Log", "total", "I", false)
  | _ => ("TornFringes$Log", "numbers", "[I", true)
def rk7 : String := "TornFringes$Pairing"
def tk7 : u_T := fun k => match k with
  | 0 => ("TornFringes$Pairing", "count", "I", false)
  | 1 => ("TornFringes$Pairing", "rings", "[I", true)
  | 2 => ("TornFringes$Pairing", "charges", "[I", true)
  | 3 => ("TornFringes$Pairing", "mates", "[I", true)
  | _ => ("TornFringes$Pairing", "least", "[I", true)
def rk8 : String := "TornFringes$Seams"
def tk8 : u_T := fun k => match k with
  | 0 => ("TornFringes$Seams", "fitTurns", "I", false)
  | 1 => ("TornFringes$Seams", "fitEdges", "I", false)
  | 2 => ("TornFringes$Seams", "count", "I", false)
  | 3 => ("TornFringes$Seams", "pairs", "[I", true)
  | 4 => ("TornFringes$Seams", "turns", "[I", true)
  | _ => ("TornFringes$Seams", "groups", "[I", true)
def rk9 : String := "TornFringes$Tape"
def tk9 : u_T := fun k => match k with
  | 0 => ("TornFringes$Tape", "length", "I", false)
  | 1 => ("TornFringes$Tape", "rows", "I", false)
  | 2 => ("TornFringes$Tape", "cols", "I", false)
  | _ => ("TornFringes$Tape", "bytes", "[I", true)
def rk10 : String := "TornFringes$Whole"
def tk10 : u_T := fun k => match k with
  | 0 => ("TornFringes$Whole", "chart", "LTornFringes$Chart;", true)
  | 1 => ("TornFringes$Whole", "joining", "LTornFringes$Joining;", true)
  | _ => ("TornFringes$Whole", "lay", "LTornFringes$Lay;", true)
def rk11 : String := "TornFringes"
def tk11 : u_T := fun k => match k with
  | 0 => ("TornFringes", "now", "LTornFringes$Whole;", true)
  | 1 => ("TornFringes", "thought", "LTornFringes$Whole;", true)
  | 2 => ("TornFringes", "acts", "LTornFringes$Acts;", true)
  | 3 => ("TornFringes", "lines", "LTornFringes$Log;", true)
  | 4 => ("TornFringes", "tape", "LTornFringes$Tape;", true)
  | 5 => ("TornFringes", "pairing", "LTornFringes$Pairing;", true)
  | 6 => ("TornFringes", "front", "LTornFringes$Front;", true)
  | 7 => ("TornFringes", "seams", "LTornFringes$Seams;", true)
  | 8 => ("TornFringes", "patches", "LTornFringes$Areas;", true)
  | 9 => ("TornFringes", "drawn", "I", false)
  | 10 => ("TornFringes", "wrongAt", "I", false)
  | 11 => ("TornFringes", "imageOfWhole", "LTornFringes$Whole;", false)
  | 12 => ("TornFringes", "imageOfLines", "LTornFringes$Log;", false)
  | _ => ("TornFringes", "imageOfDrawn", "I", false)
def rk12 : String := "TornFringesModel"
def tk12 : u_T := fun k => match k with
  | 0 => ("TornFringesModel", "told", "I", false)
  | 1 => ("TornFringesModel", "now", "[I", true)
  | 2 => ("TornFringesModel", "aside", "[I", true)
  | 3 => ("TornFringesModel", "state", "I", false)
  | 4 => ("TornFringesModel", "lines", "[I", true)
  | 5 => ("TornFringesModel", "lineMany", "I", false)
  | 6 => ("TornFringesModel", "acts", "[I", true)
  | 7 => ("TornFringesModel", "actMany", "I", false)
  | 8 => ("TornFringesModel", "torn", "[I", true)
  | 9 => ("TornFringesModel", "tornMany", "I", false)
  | 10 => ("TornFringesModel", "partner", "[I", true)
  | 11 => ("TornFringesModel", "least", "[I", true)
  | 12 => ("TornFringesModel", "fitBy", "I", false)
  | 13 => ("TornFringesModel", "fitEdges", "I", false)
  | 14 => ("TornFringesModel", "group", "[I", true)
  | 15 => ("TornFringesModel", "tape", "[I", true)
  | 16 => ("TornFringesModel", "taped", "I", false)
  | 17 => ("TornFringesModel", "faultPlace", "I", false)
  | 18 => ("TornFringesModel", "readPhase", "[I", true)
  | 19 => ("TornFringesModel", "readHidden", "[Z", true)
  | 20 => ("TornFringesModel", "readRows", "I", false)
  | 21 => ("TornFringesModel", "readCols", "I", false)
  | 22 => ("TornFringesModel", "area", "[I", true)
  | 23 => ("TornFringesModel", "hasImage", "Z", false)
  | 24 => ("TornFringesModel", "images", "[I", true)
  | 25 => ("TornFringesModel", "imageLines", "[I", true)
  | 26 => ("TornFringesModel", "imageLineMany", "I", false)
  | _ => ("TornFringesModel", "imageState", "I", false)
def rk13 : String := "java/lang/Math"
def rk14 : String := "java/util/Arrays"
def rk15 : String := "TornFringesLaw"
abbrev cks : List vw_C := [(rk0, tk0, 3), (rk1, tk1, 6), (rk2, tk2, 6), (rk3, tk3, 5), (rk4, tk4, 5), (rk5, tk5, 10), (rk6, tk6, 2), (rk7, tk7, 5), (rk8, tk8, 6), (rk9, tk9, 4), (rk10, tk10, 3), (rk11, tk11, 14), (rk12, tk12, 28)]
def cnl : List String := [rk0, rk1, rk2, rk3, rk4, rk5, rk6, rk7, rk8, rk9, rk10, rk11, rk12, rk13, rk14, rk15]
def cn (c : Nat) : String := cnl.getD c ""
def ftl : List (List Nat) := [[1, 1, 3], [1, 1, 1, 3, 3, 1], [1, 1, 3, 3, 3, 3], [3, 3, 3, 3, 1], [1, 1, 3, 3, 3], [2, 1, 1, 1, 3, 3, 3, 3, 3, 3], [1, 3], [1, 3, 3, 3, 3], [1, 1, 1, 3, 3, 3], [1, 1, 1, 3], [3, 3, 3], [3, 3, 3, 3, 3, 3, 3, 3, 3, 1, 1, 3, 3, 1], [1, 3, 3, 1, 3, 1, 3, 1, 3, 1, 3, 3, 1, 1, 3, 3, 1, 1, 3, 3, 1, 1, 3, 2, 3, 3, 1, 1]]
def ft (c j : Nat) : Nat := (ftl.getD c []).getD j 0
def fnl : List (List Bool) := [[false, false, true], [false, false, false, true, true, false], [false, false, true, true, true, true], [true, true, true, true, false], [false, false, true, true, true], [false, false, false, false, true, true, true, true, true, true], [false, true], [false, true, true, true, true], [false, false, false, true, true, true], [false, false, false, true], [true, true, true], [true, true, true, true, true, true, true, true, true, false, false, false, false, false], [false, true, true, false, true, false, true, false, true, false, true, true, false, false, true, true, false, false, true, true, false, false, true, false, true, true, false, false]]
def fn (c j : Nat) : Bool := (fnl.getD c []).getD j false
abbrev mrow : Type := MethodName × ByteArray × Nat × Option FieldType × Nat × Bool × Nat × Nat × Nat × Nat
def mtab0 : List mrow := [
  (⟨rk0, "<init>", "()V"⟩, prog_2_method_1_code, 1, none, 0, false, 1180, 1179, 0, 1007),
  (⟨rk0, "keep", "(LTornFringes$Whole;)V"⟩, prog_2_method_2_code, 2, none, 0, false, 2147, 2145, 2146, 1007),
  (⟨rk0, "takeBack", "(LTornFringes$Whole;)Z"⟩, prog_2_method_3_code, 3, some .boolean, 0, false, 5084, 5082, 5083, 1007),
  (⟨rk1, "<init>", "()V"⟩, prog_3_method_1_code, 1, none, 1, false, 2070, 2069, 0, 1013),
  (⟨rk1, "find", "(LTornFringes$Chart;LTornFringes$Lay;I)V"⟩, prog_3_method_2_code, 6, none, 1, false, 5031, 5029, 5030, 1013),
  (⟨rk1, "clearFrom", "(LTornFringes$Chart;I)I"⟩, prog_3_method_3_code, 7, some .int, 1, false, 5037, 5036, 24, 1013),
  (⟨rk1, "push", "(I)V"⟩, prog_3_method_4_code, 2, none, 1, false, 5041, 5040, 25, 1013),
  (⟨rk2, "<init>", "()V"⟩, prog_4_method_1_code, 1, none, 2, false, 1031, 1030, 0, 1003),
  (⟨rk2, "reset", "(II)V"⟩, prog_4_method_2_code, 4, none, 2, false, 1036, 1034, 1035, 1003),
  (⟨rk2, "copyFrom", "(LTornFringes$Chart;)V"⟩, prog_4_method_3_code, 2, none, 2, false, 2158, 2156, 2157, 1003),
  (⟨rk2, "pixels", "()I"⟩, prog_4_method_4_code, 1, some .int, 2, false, 2200, 2198, 2199, 1003),
  (⟨rk2, "rowOf", "(I)I"⟩, prog_4_method_5_code, 2, some .int, 2, false, 2230, 2228, 2229, 1003),
  (⟨rk2, "colOf", "(I)I"⟩, prog_4_method_6_code, 2, some .int, 2, false, 2234, 2232, 2233, 1003),
  (⟨rk2, "hasPixel", "(I)Z"⟩, prog_4_method_7_code, 2, some .boolean, 2, false, 2196, 2194, 2195, 1003),
  (⟨rk2, "hasEdge", "(I)Z"⟩, prog_4_method_8_code, 3, some .boolean, 2, false, 3149, 3147, 3148, 1003),
  (⟨rk2, "hasRing", "(I)Z"⟩, prog_4_method_9_code, 2, some .boolean, 2, false, 2225, 2223, 2224, 1003),
  (⟨rk2, "tail", "(I)I"⟩, prog_4_method_10_code, 2, some .int, 2, false, 3181, 3179, 3180, 1003),
  (⟨rk2, "tip", "(I)I"⟩, prog_4_method_11_code, 2, some .int, 2, false, 3185, 3183, 3184, 1003),
  (⟨rk2, "isShut", "(I)Z"⟩, prog_4_method_12_code, 2, some .boolean, 2, false, 3177, 3175, 3176, 1003),
  (⟨rk2, "wrapped", "(I)I"⟩, prog_4_method_13_code, 2, some .int, 2, true, 2203, 2202, 0, 1003),
  (⟨rk2, "stepFrom", "(II)I"⟩, prog_4_method_14_code, 3, some .int, 2, false, 3002, 3000, 3001, 1003),
  (⟨rk2, "stepOver", "(I)I"⟩, prog_4_method_15_code, 2, some .int, 2, false, 4161, 4159, 4160, 1003),
  (⟨rk2, "beside", "(II)I"⟩, prog_4_method_16_code, 3, some .int, 2, false, 3016, 3014, 3015, 1003),
  (⟨rk2, "edgeAt", "(II)I"⟩, prog_4_method_17_code, 3, some .int, 2, false, 3207, 3205, 3206, 1003),
  (⟨rk2, "countHidden", "()I"⟩, prog_4_method_18_code, 3, some .int, 2, false, 3163, 3161, 3162, 1003),
  (⟨rk2, "chargeOf", "(I)I"⟩, prog_4_method_19_code, 6, some .int, 2, false, 2238, 2236, 2237, 1003),
  (⟨rk2, "chargesTogether", "()I"⟩, prog_4_method_20_code, 3, some .int, 2, false, 5121, 5119, 5120, 1003),
  (⟨rk2, "farBetween", "(II)I"⟩, prog_4_method_21_code, 3, some .int, 2, false, 3030, 3028, 3029, 1003),
  (⟨rk2, "farToBorder", "(I)I"⟩, prog_4_method_22_code, 5, some .int, 2, false, 3077, 3075, 3076, 1003),
  (⟨rk2, "farOf", "(II)I"⟩, prog_4_method_23_code, 3, some .int, 2, false, 3114, 3112, 3113, 1003),
  (⟨rk2, "gradeBySteps", "(I)I"⟩, prog_4_method_24_code, 6, some .int, 2, false, 3012, 3010, 3011, 1003),
  (⟨rk2, "hidesOnLoop", "(IIII)Z"⟩, prog_4_method_25_code, 6, some .boolean, 2, false, 4198, 4196, 4197, 1003),
  (⟨rk2, "stepsRound", "(IIII)I"⟩, prog_4_method_26_code, 9, some .int, 2, false, 4202, 4200, 4201, 1003),
  (⟨rk3, "<init>", "()V"⟩, prog_5_method_1_code, 1, none, 3, false, 2019, 2018, 0, 1011),
  (⟨rk3, "bar", "(LTornFringes$Whole;)V"⟩, prog_5_method_2_code, 3, none, 3, false, 3171, 3169, 3170, 1011),
  (⟨rk3, "gather", "(LTornFringes$Whole;)V"⟩, prog_5_method_3_code, 3, none, 3, false, 3193, 3191, 3192, 1011),
  (⟨rk3, "spread", "(LTornFringes$Chart;LTornFringes$Lay;I)V"⟩, prog_5_method_4_code, 6, none, 3, false, 3202, 3200, 3201, 1011),
  (⟨rk3, "offer", "(III)V"⟩, prog_5_method_5_code, 4, none, 3, false, 3212, 3211, 10, 1011),
  (⟨rk3, "takeBest", "()I"⟩, prog_5_method_6_code, 3, some .int, 3, false, 3220, 3218, 3219, 1011),
  (⟨rk3, "isBetter", "(II)Z"⟩, prog_5_method_7_code, 3, some .boolean, 3, false, 3224, 3223, 11, 1011),
  (⟨rk4, "<init>", "()V"⟩, prog_6_method_1_code, 1, none, 4, false, 1081, 1080, 0, 1004),
  (⟨rk4, "clear", "()V"⟩, prog_6_method_2_code, 1, none, 4, false, 2183, 2181, 2182, 1004),
  (⟨rk4, "copyFrom", "(LTornFringes$Joining;)V"⟩, prog_6_method_3_code, 2, none, 4, false, 2165, 2163, 2164, 1004),
  (⟨rk4, "add", "(LTornFringes$Chart;II)V"⟩, prog_6_method_4_code, 4, none, 4, false, 3110, 3108, 3109, 1004),
  (⟨rk4, "cutBetween", "(LTornFringes$Chart;II)V"⟩, prog_6_method_5_code, 8, none, 4, false, 3135, 3134, 9, 1004),
  (⟨rk4, "cutToBorder", "(LTornFringes$Chart;I)V"⟩, prog_6_method_6_code, 6, none, 4, false, 3120, 3119, 6, 1004),
  (⟨rk4, "goAlongRow", "(LTornFringes$Chart;III)V"⟩, prog_6_method_7_code, 6, none, 4, false, 3131, 3130, 8, 1004),
  (⟨rk4, "goAlongColumn", "(LTornFringes$Chart;III)V"⟩, prog_6_method_8_code, 6, none, 4, false, 3127, 3126, 7, 1004),
  (⟨rk5, "<init>", "()V"⟩, prog_7_method_1_code, 1, none, 5, false, 1109, 1108, 0, 1005),
  (⟨rk5, "clear", "()V"⟩, prog_7_method_2_code, 1, none, 5, false, 2188, 2186, 2187, 1005)]
def mtab1 : List mrow := [
  (⟨rk5, "copyFrom", "(LTornFringes$Lay;)V"⟩, prog_7_method_3_code, 2, none, 5, false, 2170, 2168, 2169, 1005),
  (⟨rk5, "start", "(LTornFringes$Chart;)V"⟩, prog_7_method_4_code, 2, none, 5, false, 3157, 3155, 3156, 1005),
  (⟨rk5, "advance", "(LTornFringes$Chart;LTornFringes$Front;)V"⟩, prog_7_method_5_code, 4, none, 5, false, 3216, 3214, 3215, 1005),
  (⟨rk5, "follow", "(LTornFringes$Chart;II)V"⟩, prog_7_method_6_code, 4, none, 5, false, 3228, 3227, 12, 1005),
  (⟨rk5, "openIsle", "(LTornFringes$Chart;I)V"⟩, prog_7_method_7_code, 3, none, 5, false, 3238, 3237, 14, 1005),
  (⟨rk5, "bestNotLaid", "(LTornFringes$Chart;)I"⟩, prog_7_method_8_code, 4, some .int, 5, false, 3233, 3232, 13, 1005),
  (⟨rk5, "isLaid", "(I)Z"⟩, prog_7_method_9_code, 2, some .boolean, 5, false, 3198, 3196, 3197, 1005),
  (⟨rk5, "hasIsle", "(I)Z"⟩, prog_7_method_10_code, 2, some .boolean, 5, false, 4026, 4024, 4025, 1005),
  (⟨rk5, "pixelsOf", "(LTornFringes$Chart;I)I"⟩, prog_7_method_11_code, 5, some .int, 5, false, 4210, 4208, 4209, 1005),
  (⟨rk5, "depthOf", "(I)I"⟩, prog_7_method_12_code, 4, some .int, 5, false, 4148, 4146, 4147, 1005),
  (⟨rk5, "canLift", "(LTornFringes$Chart;II)Z"⟩, prog_7_method_13_code, 7, some .boolean, 5, false, 4030, 4028, 4029, 1005),
  (⟨rk5, "raise", "(LTornFringes$Chart;II)V"⟩, prog_7_method_14_code, 5, none, 5, false, 4037, 4035, 4036, 1005),
  (⟨rk5, "squareSum", "(LTornFringes$Chart;I)J"⟩, prog_7_method_15_code, 8, some .long, 5, false, 5000, 4238, 4239, 1005),
  (⟨rk5, "lowest", "(LTornFringes$Chart;)I"⟩, prog_7_method_16_code, 4, some .int, 5, false, 5015, 5013, 5014, 1005),
  (⟨rk5, "highest", "(LTornFringes$Chart;)I"⟩, prog_7_method_17_code, 4, some .int, 5, false, 5019, 5017, 5018, 1005),
  (⟨rk5, "isPeak", "(LTornFringes$Chart;I)Z"⟩, prog_7_method_18_code, 5, some .boolean, 5, false, 5050, 5048, 5049, 1005),
  (⟨rk5, "otherHeights", "(LTornFringes$Chart;LTornFringes$Lay;)I"⟩, prog_7_method_19_code, 5, some .int, 5, false, 5072, 5070, 5071, 1005),
  (⟨rk6, "<init>", "()V"⟩, prog_8_method_1_code, 1, none, 6, false, 1199, 1198, 0, 1008),
  (⟨rk6, "copyFrom", "(LTornFringes$Log;)V"⟩, prog_8_method_2_code, 2, none, 6, false, 5110, 5108, 5109, 1008),
  (⟨rk6, "note", "(III)V"⟩, prog_8_method_3_code, 5, none, 6, false, 3141, 3139, 3140, 1008),
  (⟨rk6, "has", "(I)Z"⟩, prog_8_method_4_code, 2, some .boolean, 6, false, 5092, 5090, 5091, 1008),
  (⟨rk6, "get", "(II)I"⟩, prog_8_method_5_code, 3, some .int, 6, false, 5097, 5095, 5096, 1008),
  (⟨rk7, "<init>", "()V"⟩, prog_9_method_1_code, 1, none, 7, false, 1235, 1234, 0, 1010),
  (⟨rk7, "findTorn", "(LTornFringes$Chart;)V"⟩, prog_9_method_2_code, 4, none, 7, false, 2220, 2218, 2219, 1010),
  (⟨rk7, "farToTorn", "(LTornFringes$Chart;I)I"⟩, prog_9_method_3_code, 5, some .int, 7, false, 3026, 3024, 3025, 1010),
  (⟨rk7, "canPair", "(LTornFringes$Chart;I)Z"⟩, prog_9_method_4_code, 3, some .boolean, 7, false, 3060, 3058, 3059, 1010),
  (⟨rk7, "pair", "(LTornFringes$Chart;I)V"⟩, prog_9_method_5_code, 3, none, 7, false, 3065, 3063, 3064, 1010),
  (⟨rk7, "tell", "(LTornFringes$Chart;LTornFringes$Joining;)V"⟩, prog_9_method_6_code, 4, none, 7, false, 3105, 3103, 3104, 1010),
  (⟨rk7, "pairNearest", "(LTornFringes$Chart;)V"⟩, prog_9_method_7_code, 4, none, 7, false, 3069, 3068, 2, 1010),
  (⟨rk7, "pairAtFar", "(LTornFringes$Chart;II)V"⟩, prog_9_method_8_code, 5, none, 7, false, 3073, 3072, 3, 1010),
  (⟨rk7, "pairLeast", "(LTornFringes$Chart;)V"⟩, prog_9_method_9_code, 5, none, 7, false, 3082, 3081, 4, 1010),
  (⟨rk7, "leastMate", "(LTornFringes$Chart;II)I"⟩, prog_9_method_10_code, 7, some .int, 7, false, 3095, 3094, 5, 1010),
  (⟨rk7, "leastFars", "(LTornFringes$Pairing;LTornFringes$Chart;II)I"⟩, prog_9_method_11_code, 9, some .int, 7, true, 3098, 3097, 0, 1010),
  (⟨rk7, "isIn", "(II)Z"⟩, prog_9_method_12_code, 2, some .boolean, 7, true, 3091, 3090, 0, 1010),
  (⟨rk7, "without", "(II)I"⟩, prog_9_method_13_code, 2, some .int, 7, true, 3101, 3100, 0, 1010),
  (⟨rk8, "<init>", "()V"⟩, prog_10_method_1_code, 1, none, 8, false, 2043, 2042, 0, 1012),
  (⟨rk8, "gather", "(LTornFringes$Chart;LTornFringes$Lay;)V"⟩, prog_10_method_2_code, 4, none, 8, false, 4050, 4048, 4049, 1012),
  (⟨rk8, "gatherEdge", "(LTornFringes$Chart;LTornFringes$Lay;II)V"⟩, prog_10_method_3_code, 8, none, 8, false, 4058, 4057, 16, 1012),
  (⟨rk8, "insert", "(II)V"⟩, prog_10_method_4_code, 4, none, 8, false, 4072, 4071, 17, 1012),
  (⟨rk8, "pairOf", "(II)I"⟩, prog_10_method_5_code, 2, some .int, 8, true, 4062, 4061, 0, 1012),
  (⟨rk8, "turnsLacking", "(LTornFringes$Chart;LTornFringes$Lay;II)I"⟩, prog_10_method_6_code, 6, some .int, 8, true, 4065, 4064, 0, 1012),
  (⟨rk8, "findFit", "(II)V"⟩, prog_10_method_7_code, 5, none, 8, false, 4224, 4222, 4223, 1012),
  (⟨rk8, "endOfPair", "(II)I"⟩, prog_10_method_8_code, 4, some .int, 8, false, 4080, 4079, 19, 1012),
  (⟨rk8, "fitWithin", "(III)V"⟩, prog_10_method_9_code, 7, none, 8, false, 4084, 4083, 20, 1012),
  (⟨rk8, "isNearer", "(II)Z"⟩, prog_10_method_10_code, 4, some .boolean, 8, true, 4087, 4086, 0, 1012),
  (⟨rk8, "uniteAll", "(LTornFringes$Chart;LTornFringes$Lay;)I"⟩, prog_10_method_11_code, 8, some .int, 8, false, 4046, 4044, 4045, 1012),
  (⟨rk8, "findBest", "()I"⟩, prog_10_method_12_code, 6, some .int, 8, false, 4076, 4075, 18, 1012),
  (⟨rk8, "liftGroup", "(LTornFringes$Chart;LTornFringes$Lay;I)Z"⟩, prog_10_method_13_code, 5, some .boolean, 8, false, 4092, 4091, 21, 1012),
  (⟨rk8, "unite", "(LTornFringes$Lay;II)V"⟩, prog_10_method_14_code, 5, none, 8, false, 4098, 4097, 22, 1012),
  (⟨rk9, "<init>", "()V"⟩, prog_11_method_1_code, 1, none, 9, false, 1213, 1212, 0, 1009)]
def mtab2 : List mrow := [
  (⟨rk9, "add", "(I)V"⟩, prog_11_method_2_code, 3, none, 9, false, 4106, 4104, 4105, 1009),
  (⟨rk9, "findFault", "()I"⟩, prog_11_method_3_code, 5, some .int, 9, false, 4118, 4116, 4117, 1009),
  (⟨rk9, "canEnd", "(II)Z"⟩, prog_11_method_4_code, 2, some .boolean, 9, true, 4121, 4120, 0, 1009),
  (⟨rk9, "canStand", "(II)Z"⟩, prog_11_method_5_code, 4, some .boolean, 9, false, 4125, 4124, 23, 1009),
  (⟨rk9, "digitOf", "(I)I"⟩, prog_11_method_6_code, 1, some .int, 9, true, 4128, 4127, 0, 1009),
  (⟨rk9, "tell", "(LTornFringes$Chart;)V"⟩, prog_11_method_7_code, 4, none, 9, false, 4132, 4130, 4131, 1009),
  (⟨rk10, "<init>", "(LTornFringes$Chart;)V"⟩, prog_12_method_1_code, 2, none, 10, false, 1075, 1074, 0, 1002),
  (⟨rk10, "copyFrom", "(LTornFringes$Whole;)V"⟩, prog_12_method_2_code, 2, none, 10, false, 2154, 2152, 2153, 1002),
  (⟨rk10, "tellMap", "(II)V"⟩, prog_12_method_3_code, 3, none, 10, false, 2178, 2176, 2177, 1002),
  (⟨rk10, "isCut", "(I)Z"⟩, prog_12_method_4_code, 2, some .boolean, 10, false, 3189, 3187, 3188, 1002),
  (⟨rk10, "countCut", "()I"⟩, prog_12_method_5_code, 3, some .int, 10, false, 5127, 5125, 5126, 1002),
  (⟨rk10, "isJump", "(I)Z"⟩, prog_12_method_6_code, 2, some .boolean, 10, false, 4009, 4007, 4008, 1002),
  (⟨rk10, "isTear", "(I)Z"⟩, prog_12_method_7_code, 2, some .boolean, 10, false, 4167, 4165, 4166, 1002),
  (⟨rk10, "differs", "(I)Z"⟩, prog_12_method_8_code, 4, some .boolean, 10, false, 4014, 4013, 15, 1002),
  (⟨rk10, "countJumps", "()I"⟩, prog_12_method_9_code, 3, some .int, 10, false, 4003, 4001, 4002, 1002),
  (⟨rk10, "countTears", "()I"⟩, prog_12_method_10_code, 3, some .int, 10, false, 5067, 5065, 5066, 1002),
  (⟨rk10, "edgesOutOf", "(I)I"⟩, prog_12_method_11_code, 6, some .int, 10, false, 4214, 4212, 4213, 1002),
  (⟨rk11, "<init>", "()V"⟩, prog_1_method_1_code, 1, none, 11, false, 1021, 1020, 0, 1001),
  (⟨rk11, "size", "(II)Z"⟩, prog_1_method_2_code, 3, some .boolean, 11, false, 2140, 2138, 2139, 1001),
  (⟨rk11, "phase", "(II)I"⟩, prog_1_method_3_code, 3, some .int, 11, false, 2192, 2190, 2191, 1001),
  (⟨rk11, "hide", "(IZ)Z"⟩, prog_1_method_4_code, 3, some .boolean, 11, false, 2208, 2206, 2207, 1001),
  (⟨rk11, "grade", "(II)Z"⟩, prog_1_method_5_code, 3, some .boolean, 11, false, 2212, 2210, 2211, 1001),
  (⟨rk11, "grades", "(I)I"⟩, prog_1_method_6_code, 4, some .int, 11, false, 2216, 2214, 2215, 1001),
  (⟨rk11, "ramp", "(II)Z"⟩, prog_1_method_7_code, 5, some .boolean, 11, false, 3036, 3034, 3035, 1001),
  (⟨rk11, "noise", "(I)Z"⟩, prog_1_method_8_code, 5, some .boolean, 11, false, 3042, 3040, 3041, 1001),
  (⟨rk11, "state", "(I)I"⟩, prog_1_method_9_code, 3, some .int, 11, false, 3052, 3050, 3051, 1001),
  (⟨rk11, "join", "(I)I"⟩, prog_1_method_10_code, 2, some .int, 11, false, 3056, 3054, 3055, 1001),
  (⟨rk11, "cut", "(IZ)Z"⟩, prog_1_method_11_code, 3, some .boolean, 11, false, 3145, 3143, 3144, 1001),
  (⟨rk11, "begin", "()I"⟩, prog_1_method_12_code, 1, some .int, 11, false, 3153, 3151, 3152, 1001),
  (⟨rk11, "step", "(I)I"⟩, prog_1_method_13_code, 4, some .int, 11, false, 3167, 3165, 3166, 1001),
  (⟨rk11, "lift", "(II)Z"⟩, prog_1_method_14_code, 3, some .boolean, 11, false, 4022, 4020, 4021, 1001),
  (⟨rk11, "settle", "()I"⟩, prog_1_method_15_code, 2, some .int, 11, false, 4041, 4039, 4040, 1001),
  (⟨rk11, "feed", "(IIIII)I"⟩, prog_1_method_16_code, 6, some .int, 11, false, 4102, 4100, 4101, 1001),
  (⟨rk11, "end", "(I)Z"⟩, prog_1_method_17_code, 2, some .boolean, 11, false, 4110, 4108, 4109, 1001),
  (⟨rk11, "text", "()I"⟩, prog_1_method_18_code, 1, some .int, 11, false, 4114, 4112, 4113, 1001),
  (⟨rk11, "fault", "()I"⟩, prog_1_method_19_code, 1, some .int, 11, false, 4139, 4137, 4138, 1001),
  (⟨rk11, "pixel", "(II)I"⟩, prog_1_method_20_code, 4, some .int, 11, false, 4143, 4141, 4142, 1001),
  (⟨rk11, "height", "(I)I"⟩, prog_1_method_21_code, 2, some .int, 11, false, 4152, 4150, 4151, 1001),
  (⟨rk11, "edge", "(II)I"⟩, prog_1_method_22_code, 4, some .int, 11, false, 4157, 4155, 4156, 1001),
  (⟨rk11, "charge", "(I)I"⟩, prog_1_method_23_code, 2, some .int, 11, false, 4173, 4171, 4172, 1001),
  (⟨rk11, "torn", "(I)I"⟩, prog_1_method_24_code, 2, some .int, 11, false, 4179, 4177, 4178, 1001),
  (⟨rk11, "far", "(II)I"⟩, prog_1_method_25_code, 3, some .int, 11, false, 4183, 4181, 4182, 1001),
  (⟨rk11, "joined", "(II)I"⟩, prog_1_method_26_code, 4, some .int, 11, false, 4189, 4187, 4188, 1001),
  (⟨rk11, "loop", "(IIII)I"⟩, prog_1_method_27_code, 6, some .int, 11, false, 4194, 4192, 4193, 1001),
  (⟨rk11, "island", "(II)I"⟩, prog_1_method_28_code, 3, some .int, 11, false, 4206, 4204, 4205, 1001),
  (⟨rk11, "fit", "(III)I"⟩, prog_1_method_29_code, 4, some .int, 11, false, 4218, 4216, 4217, 1001),
  (⟨rk11, "sum", "(I)J"⟩, prog_1_method_30_code, 5, some .long, 11, false, 4230, 4228, 4229, 1001),
  (⟨rk11, "power", "(IJ)J"⟩, prog_1_method_31_code, 6, some .long, 11, false, 4235, 4233, 4234, 1001),
  (⟨rk11, "range", "(I)I"⟩, prog_1_method_32_code, 4, some .int, 11, false, 5011, 5009, 5010, 1001),
  (⟨rk11, "between", "(II)I"⟩, prog_1_method_33_code, 5, some .int, 11, false, 5023, 5021, 5022, 1001)]
def mtab3 : List mrow := [
  (⟨rk11, "areas", "(II)I"⟩, prog_1_method_34_code, 3, some .int, 11, false, 5027, 5025, 5026, 1001),
  (⟨rk11, "peak", "(I)I"⟩, prog_1_method_35_code, 4, some .int, 11, false, 5046, 5044, 5045, 1001),
  (⟨rk11, "way", "(II)I"⟩, prog_1_method_36_code, 5, some .int, 11, false, 5055, 5053, 5054, 1001),
  (⟨rk11, "would", "(II)I"⟩, prog_1_method_37_code, 3, some .int, 11, false, 5059, 5057, 5058, 1001),
  (⟨rk11, "apart", "(I)I"⟩, prog_1_method_38_code, 2, some .int, 11, false, 5076, 5074, 5075, 1001),
  (⟨rk11, "undo", "()I"⟩, prog_1_method_39_code, 1, some .int, 11, false, 5080, 5078, 5079, 1001),
  (⟨rk11, "log", "(II)I"⟩, prog_1_method_40_code, 3, some .int, 11, false, 5088, 5086, 5087, 1001),
  (⟨rk11, "image", "(Z)Z"⟩, prog_1_method_41_code, 2, some .boolean, 11, false, 5101, 5099, 5100, 1001),
  (⟨rk11, "look", "(I)I"⟩, prog_1_method_42_code, 2, some .int, 11, false, 5115, 5113, 5114, 1001),
  (⟨rk11, "isSide", "(I)Z"⟩, prog_1_method_43_code, 1, some .boolean, 11, true, 2143, 2142, 0, 1001),
  (⟨rk11, "draw", "(I)I"⟩, prog_1_method_44_code, 2, some .int, 11, false, 3046, 3045, 1, 1001),
  (⟨rk11, "gradeBy", "(II)I"⟩, prog_1_method_45_code, 3, some .int, 11, false, 3008, 3007, 0, 1001),
  (⟨rk11, "floodInThought", "()V"⟩, prog_1_method_46_code, 2, none, 11, false, 5063, 5062, 26, 1001),
  (⟨rk11, "takeImage", "()V"⟩, prog_1_method_47_code, 1, none, 11, false, 5105, 5104, 27, 1001),
  (⟨rk12, "<init>", "()V"⟩, prog_14_method_1_code, 1, none, 12, false, 5132, 5131, 0, 1014),
  (⟨rk12, "isIn", "(III)Z"⟩, prog_14_method_3_code, 4, some .boolean, 12, false, 5234, 5233, 29, 1014),
  (⟨rk12, "rows", "()I"⟩, prog_14_method_4_code, 1, some .int, 12, false, 6018, 6017, 34, 1014),
  (⟨rk12, "cols", "()I"⟩, prog_14_method_5_code, 1, some .int, 12, false, 6022, 6021, 35, 1014),
  (⟨rk12, "many", "()I"⟩, prog_14_method_6_code, 1, some .int, 12, false, 6014, 6013, 33, 1014),
  (⟨rk12, "isPixel", "(I)Z"⟩, prog_14_method_7_code, 2, some .boolean, 12, false, 6010, 6009, 32, 1014),
  (⟨rk12, "phaseOf", "(I)I"⟩, prog_14_method_8_code, 2, some .int, 12, false, 6039, 6038, 39, 1014),
  (⟨rk12, "gradeOf", "(I)I"⟩, prog_14_method_9_code, 2, some .int, 12, false, 6226, 6225, 75, 1014),
  (⟨rk12, "isHidden", "(I)Z"⟩, prog_14_method_10_code, 2, some .boolean, 12, false, 6047, 6046, 40, 1014),
  (⟨rk12, "isLaid", "(I)Z"⟩, prog_14_method_11_code, 2, some .boolean, 12, false, 6190, 6189, 67, 1014),
  (⟨rk12, "rowOf", "(I)I"⟩, prog_14_method_12_code, 2, some .int, 12, false, 6071, 6070, 44, 1014),
  (⟨rk12, "colOf", "(I)I"⟩, prog_14_method_13_code, 2, some .int, 12, false, 6067, 6066, 43, 1014),
  (⟨rk12, "abs", "(I)I"⟩, prog_14_method_14_code, 2, some .int, 12, false, 6079, 6078, 46, 1014),
  (⟨rk12, "wrapped", "(J)I"⟩, prog_14_method_15_code, 4, some .int, 12, false, 6034, 6033, 38, 1014),
  (⟨rk12, "stepOf", "(II)I"⟩, prog_14_method_16_code, 3, some .int, 12, false, 6075, 6074, 45, 1014),
  (⟨rk12, "isEdge", "(I)Z"⟩, prog_14_method_17_code, 2, some .boolean, 12, false, 6178, 6177, 65, 1014),
  (⟨rk12, "lesser", "(I)I"⟩, prog_14_method_18_code, 2, some .int, 12, false, 6210, 6209, 71, 1014),
  (⟨rk12, "greater", "(I)I"⟩, prog_14_method_19_code, 2, some .int, 12, false, 6214, 6213, 72, 1014),
  (⟨rk12, "isShut", "(I)Z"⟩, prog_14_method_20_code, 2, some .boolean, 12, false, 6206, 6205, 70, 1014),
  (⟨rk12, "isCut", "(I)Z"⟩, prog_14_method_21_code, 2, some .boolean, 12, false, 6218, 6217, 73, 1014),
  (⟨rk12, "gradeOfEdge", "(I)I"⟩, prog_14_method_22_code, 4, some .int, 12, false, 6222, 6221, 74, 1014),
  (⟨rk12, "logs", "(III)V"⟩, prog_14_method_23_code, 5, none, 12, false, 5226, 5225, 28, 1014),
  (⟨rk12, "keepsAct", "()V"⟩, prog_14_method_24_code, 2, none, 12, false, 5238, 5237, 30, 1014),
  (⟨rk12, "clearsFlood", "()V"⟩, prog_14_method_25_code, 2, none, 12, false, 6030, 6029, 37, 1014),
  (⟨rk12, "changes", "()V"⟩, prog_14_method_26_code, 1, none, 12, false, 6026, 6025, 36, 1014),
  (⟨rk12, "undo", "()I"⟩, prog_14_method_27_code, 2, some .int, 12, false, 5222, 5220, 5221, 1014),
  (⟨rk12, "sizes", "(II)V"⟩, prog_14_method_28_code, 4, none, 12, false, 6002, 6001, 31, 1014),
  (⟨rk12, "size", "(II)Z"⟩, prog_14_method_29_code, 3, some .boolean, 12, false, 5230, 5228, 5229, 1014),
  (⟨rk12, "phase", "(II)I"⟩, prog_14_method_30_code, 3, some .int, 12, false, 6006, 6004, 6005, 1014),
  (⟨rk12, "hide", "(IZ)Z"⟩, prog_14_method_31_code, 3, some .boolean, 12, false, 6043, 6041, 6042, 1014),
  (⟨rk12, "grade", "(II)Z"⟩, prog_14_method_32_code, 3, some .boolean, 12, false, 6051, 6049, 6050, 1014),
  (⟨rk12, "beside", "(II)I"⟩, prog_14_method_33_code, 3, some .int, 12, false, 6063, 6062, 42, 1014),
  (⟨rk12, "edgeTo", "(II)I"⟩, prog_14_method_34_code, 3, some .int, 12, false, 6202, 6201, 69, 1014),
  (⟨rk12, "gradeBySteps", "(I)I"⟩, prog_14_method_35_code, 6, some .int, 12, false, 6059, 6058, 41, 1014),
  (⟨rk12, "farOf", "(II)I"⟩, prog_14_method_36_code, 3, some .int, 12, false, 6095, 6094, 50, 1014),
  (⟨rk12, "gradeByTorn", "(I)I"⟩, prog_14_method_37_code, 4, some .int, 12, false, 6083, 6082, 47, 1014)]
def mtab4 : List mrow := [
  (⟨rk12, "grades", "(I)I"⟩, prog_14_method_38_code, 5, some .int, 12, false, 6055, 6053, 6054, 1014),
  (⟨rk12, "ramp", "(II)Z"⟩, prog_14_method_39_code, 4, some .boolean, 12, false, 6099, 6097, 6098, 1014),
  (⟨rk12, "draw", "(I)I"⟩, prog_14_method_40_code, 2, some .int, 12, false, 6107, 6106, 51, 1014),
  (⟨rk12, "noise", "(I)Z"⟩, prog_14_method_41_code, 4, some .boolean, 12, false, 6103, 6101, 6102, 1014),
  (⟨rk12, "state", "(I)I"⟩, prog_14_method_42_code, 3, some .int, 12, false, 6113, 6111, 6112, 1014),
  (⟨rk12, "isRing", "(I)Z"⟩, prog_14_method_43_code, 2, some .boolean, 12, false, 6091, 6090, 49, 1014),
  (⟨rk12, "chargeOf", "(I)I"⟩, prog_14_method_44_code, 4, some .int, 12, false, 6087, 6086, 48, 1014),
  (⟨rk12, "toSide", "(II)I"⟩, prog_14_method_45_code, 3, some .int, 12, false, 6149, 6148, 59, 1014),
  (⟨rk12, "nearestSide", "(I)I"⟩, prog_14_method_46_code, 4, some .int, 12, false, 6145, 6144, 58, 1014),
  (⟨rk12, "farToBorder", "(I)I"⟩, prog_14_method_47_code, 2, some .int, 12, false, 6141, 6140, 57, 1014),
  (⟨rk12, "laysTorn", "()V"⟩, prog_14_method_48_code, 2, none, 12, false, 6125, 6124, 53, 1014),
  (⟨rk12, "areUnlike", "(II)Z"⟩, prog_14_method_49_code, 3, some .boolean, 12, false, 6153, 6152, 60, 1014),
  (⟨rk12, "laysLeast", "()V"⟩, prog_14_method_50_code, 6, none, 12, false, 6137, 6136, 56, 1014),
  (⟨rk12, "joinsLeast", "()V"⟩, prog_14_method_51_code, 5, none, 12, false, 6133, 6132, 55, 1014),
  (⟨rk12, "joinsNearest", "()V"⟩, prog_14_method_52_code, 7, none, 12, false, 6157, 6156, 61, 1014),
  (⟨rk12, "cutsOver", "(I)V"⟩, prog_14_method_53_code, 2, none, 12, false, 6166, 6165, 63, 1014),
  (⟨rk12, "cutsOut", "(II)V"⟩, prog_14_method_54_code, 7, none, 12, false, 6162, 6161, 62, 1014),
  (⟨rk12, "cutsTo", "(II)V"⟩, prog_14_method_55_code, 6, none, 12, false, 6170, 6169, 64, 1014),
  (⟨rk12, "joinsBy", "(I)I"⟩, prog_14_method_56_code, 6, some .int, 12, false, 6129, 6128, 54, 1014),
  (⟨rk12, "canJoin", "(I)Z"⟩, prog_14_method_57_code, 2, some .boolean, 12, false, 6121, 6120, 52, 1014),
  (⟨rk12, "join", "(I)I"⟩, prog_14_method_58_code, 3, some .int, 12, false, 6117, 6115, 6116, 1014),
  (⟨rk12, "cut", "(IZ)Z"⟩, prog_14_method_59_code, 3, some .boolean, 12, false, 6174, 6172, 6173, 1014),
  (⟨rk12, "toBeLaid", "()I"⟩, prog_14_method_60_code, 3, some .int, 12, false, 6186, 6185, 66, 1014),
  (⟨rk12, "lays", "(IIII)V"⟩, prog_14_method_61_code, 5, none, 12, false, 6234, 6233, 77, 1014),
  (⟨rk12, "beginsIsland", "()V"⟩, prog_14_method_62_code, 3, none, 12, false, 6230, 6229, 76, 1014),
  (⟨rk12, "moves", "()Z"⟩, prog_14_method_63_code, 9, some .boolean, 12, false, 6198, 6197, 68, 1014),
  (⟨rk12, "begin", "()I"⟩, prog_14_method_64_code, 2, some .int, 12, false, 6182, 6180, 6181, 1014),
  (⟨rk12, "step", "(I)I"⟩, prog_14_method_65_code, 3, some .int, 12, false, 6194, 6192, 6193, 1014),
  (⟨rk12, "isWrong", "(I)Z"⟩, prog_14_method_66_code, 4, some .boolean, 12, false, 7010, 7009, 81, 1014),
  (⟨rk12, "areLaid", "(I)Z"⟩, prog_14_method_67_code, 2, some .boolean, 12, false, 7006, 7005, 80, 1014),
  (⟨rk12, "isJump", "(I)Z"⟩, prog_14_method_68_code, 2, some .boolean, 12, false, 7002, 7001, 79, 1014),
  (⟨rk12, "isTear", "(I)Z"⟩, prog_14_method_69_code, 2, some .boolean, 12, false, 7108, 7107, 95, 1014),
  (⟨rk12, "jumps", "()I"⟩, prog_14_method_70_code, 3, some .int, 12, false, 6238, 6237, 78, 1014),
  (⟨rk12, "tears", "()I"⟩, prog_14_method_71_code, 3, some .int, 12, false, 7204, 7203, 104, 1014),
  (⟨rk12, "isIsland", "(I)Z"⟩, prog_14_method_72_code, 2, some .boolean, 12, false, 7018, 7017, 82, 1014),
  (⟨rk12, "canLift", "(II)Z"⟩, prog_14_method_73_code, 6, some .boolean, 12, false, 7022, 7021, 83, 1014),
  (⟨rk12, "lifts", "(II)V"⟩, prog_14_method_74_code, 4, none, 12, false, 7026, 7025, 84, 1014),
  (⟨rk12, "lift", "(II)Z"⟩, prog_14_method_75_code, 3, some .boolean, 12, false, 7014, 7012, 7013, 1014),
  (⟨rk12, "lackAt", "(II)I"⟩, prog_14_method_76_code, 5, some .int, 12, false, 7042, 7041, 87, 1014),
  (⟨rk12, "isBetween", "(III)Z"⟩, prog_14_method_77_code, 6, some .boolean, 12, false, 7038, 7037, 86, 1014),
  (⟨rk12, "isNearer", "(II)Z"⟩, prog_14_method_78_code, 7, some .boolean, 12, false, 7046, 7045, 88, 1014),
  (⟨rk12, "fits", "(II)Z"⟩, prog_14_method_79_code, 7, some .boolean, 12, false, 7034, 7033, 85, 1014),
  (⟨rk12, "fit", "(III)I"⟩, prog_14_method_80_code, 4, some .int, 12, false, 7030, 7028, 7029, 1014),
  (⟨rk12, "settles", "()I"⟩, prog_14_method_81_code, 8, some .int, 12, false, 7055, 7054, 89, 1014),
  (⟨rk12, "changesPlaces", "()V"⟩, prog_14_method_82_code, 3, none, 12, false, 7059, 7058, 90, 1014),
  (⟨rk12, "settle", "()I"⟩, prog_14_method_83_code, 2, some .int, 12, false, 7051, 7049, 7050, 1014),
  (⟨rk12, "types", "(I)V"⟩, prog_14_method_84_code, 3, none, 12, false, 7067, 7066, 91, 1014),
  (⟨rk12, "feed", "(IIIII)I"⟩, prog_14_method_85_code, 6, some .int, 12, false, 7063, 7061, 7062, 1014),
  (⟨rk12, "end", "(I)Z"⟩, prog_14_method_86_code, 2, some .boolean, 12, false, 7071, 7069, 7070, 1014),
  (⟨rk12, "hexOf", "(I)I"⟩, prog_14_method_87_code, 2, some .int, 12, false, 7083, 7082, 93, 1014)]
def mtab5 : List mrow := [
  (⟨rk12, "reads", "(I)I"⟩, prog_14_method_88_code, 7, some .int, 12, false, 7079, 7078, 92, 1014),
  (⟨rk12, "text", "()I"⟩, prog_14_method_89_code, 3, some .int, 12, false, 7075, 7073, 7074, 1014),
  (⟨rk12, "fault", "()I"⟩, prog_14_method_90_code, 1, some .int, 12, false, 7087, 7085, 7086, 1014),
  (⟨rk12, "backMany", "(I)I"⟩, prog_14_method_91_code, 4, some .int, 12, false, 7095, 7094, 94, 1014),
  (⟨rk12, "pixel", "(II)I"⟩, prog_14_method_92_code, 4, some .int, 12, false, 7091, 7089, 7090, 1014),
  (⟨rk12, "height", "(I)I"⟩, prog_14_method_93_code, 2, some .int, 12, false, 7099, 7097, 7098, 1014),
  (⟨rk12, "edge", "(II)I"⟩, prog_14_method_94_code, 3, some .int, 12, false, 7104, 7102, 7103, 1014),
  (⟨rk12, "charge", "(I)I"⟩, prog_14_method_95_code, 2, some .int, 12, false, 7112, 7110, 7111, 1014),
  (⟨rk12, "torn", "(I)I"⟩, prog_14_method_96_code, 2, some .int, 12, false, 7116, 7114, 7115, 1014),
  (⟨rk12, "far", "(II)I"⟩, prog_14_method_97_code, 3, some .int, 12, false, 7120, 7118, 7119, 1014),
  (⟨rk12, "joined", "(II)I"⟩, prog_14_method_98_code, 3, some .int, 12, false, 7124, 7122, 7123, 1014),
  (⟨rk12, "pixelsOf", "(I)I"⟩, prog_14_method_99_code, 4, some .int, 12, false, 7132, 7131, 96, 1014),
  (⟨rk12, "edgesOut", "(I)I"⟩, prog_14_method_100_code, 6, some .int, 12, false, 7136, 7135, 97, 1014),
  (⟨rk12, "island", "(II)I"⟩, prog_14_method_101_code, 3, some .int, 12, false, 7128, 7126, 7127, 1014),
  (⟨rk12, "loop", "(IIII)I"⟩, prog_14_method_102_code, 9, some .int, 12, false, 7140, 7138, 7139, 1014),
  (⟨rk12, "sum", "(I)J"⟩, prog_14_method_103_code, 5, some .long, 12, false, 7144, 7142, 7143, 1014),
  (⟨rk12, "power", "(IJ)J"⟩, prog_14_method_104_code, 9, some .long, 12, false, 7149, 7147, 7148, 1014),
  (⟨rk12, "outmost", "(Z)I"⟩, prog_14_method_105_code, 4, some .int, 12, false, 7160, 7159, 98, 1014),
  (⟨rk12, "range", "(I)I"⟩, prog_14_method_106_code, 3, some .int, 12, false, 7156, 7154, 7155, 1014),
  (⟨rk12, "between", "(II)I"⟩, prog_14_method_107_code, 5, some .int, 12, false, 7164, 7162, 7163, 1014),
  (⟨rk12, "isUp", "(II)Z"⟩, prog_14_method_108_code, 3, some .boolean, 12, false, 7176, 7175, 100, 1014),
  (⟨rk12, "laysAreas", "(I)V"⟩, prog_14_method_109_code, 5, none, 12, false, 7172, 7171, 99, 1014),
  (⟨rk12, "pixelsIn", "(II)I"⟩, prog_14_method_110_code, 5, some .int, 12, false, 7180, 7179, 101, 1014),
  (⟨rk12, "areas", "(II)I"⟩, prog_14_method_111_code, 7, some .int, 12, false, 7168, 7166, 7167, 1014),
  (⟨rk12, "isPeak", "(I)Z"⟩, prog_14_method_112_code, 4, some .boolean, 12, false, 7188, 7187, 102, 1014),
  (⟨rk12, "peak", "(I)I"⟩, prog_14_method_113_code, 4, some .int, 12, false, 7184, 7182, 7183, 1014),
  (⟨rk12, "way", "(II)I"⟩, prog_14_method_114_code, 5, some .int, 12, false, 7192, 7190, 7191, 1014),
  (⟨rk12, "floods", "()V"⟩, prog_14_method_115_code, 1, none, 12, false, 7200, 7199, 103, 1014),
  (⟨rk12, "othersThan", "([I)I"⟩, prog_14_method_116_code, 4, some .int, 12, false, 7208, 7207, 105, 1014),
  (⟨rk12, "would", "(II)I"⟩, prog_14_method_117_code, 5, some .int, 12, false, 7196, 7194, 7195, 1014),
  (⟨rk12, "apart", "(I)I"⟩, prog_14_method_118_code, 4, some .int, 12, false, 7212, 7210, 7211, 1014),
  (⟨rk12, "log", "(II)I"⟩, prog_14_method_119_code, 3, some .int, 12, false, 7216, 7214, 7215, 1014),
  (⟨rk12, "image", "(Z)Z"⟩, prog_14_method_120_code, 3, some .boolean, 12, false, 7220, 7218, 7219, 1014),
  (⟨rk12, "sumOf", "(II)I"⟩, prog_14_method_121_code, 5, some .int, 12, false, 7228, 7227, 106, 1014),
  (⟨rk12, "charges", "()I"⟩, prog_14_method_122_code, 3, some .int, 12, false, 7232, 7231, 107, 1014),
  (⟨rk12, "cuts", "()I"⟩, prog_14_method_123_code, 3, some .int, 12, false, 7236, 7235, 108, 1014),
  (⟨rk12, "laidMany", "()I"⟩, prog_14_method_124_code, 3, some .int, 12, false, 8000, 7239, 109, 1014),
  (⟨rk12, "look", "(I)I"⟩, prog_14_method_125_code, 2, some .int, 12, false, 7224, 7222, 7223, 1014),
  (⟨rk14, "rangeCheck", "(III)V"⟩, prog_17_method_30_code, 3, none, 14, true, 3088, 3087, 0, 1006),
  (⟨rk14, "fill", "([II)V"⟩, prog_17_method_103_code, 4, none, 14, true, 1113, 1112, 0, 1006),
  (⟨rk14, "fill", "([IIII)V"⟩, prog_17_method_104_code, 5, none, 14, true, 3085, 3084, 0, 1006),
  (⟨rk15, "law", "([I)Z"⟩, code, 4, some .boolean, 15, true, 0, 0, 0, 0)]
def mtabs : List (List mrow) := [mtab0, mtab1, mtab2, mtab3, mtab4, mtab5]
def mrow0 : mrow := (⟨"", "", ""⟩, ⟨#[]⟩, 0, none, 0, false, 0, 0, 0, 0)
def mro (k : Nat) : mrow := (mtabs.getD (k / 50) []).getD (k % 50) mrow0
def mname (k : Nat) : MethodName := (mro k).1
def mcode (k : Nat) : ByteArray := (mro k).2.1
def mmaxl (k : Nat) : Nat := (mro k).2.2.1
def mret (k : Nat) : Option FieldType := (mro k).2.2.2.1
def mcls (k : Nat) : Nat := (mro k).2.2.2.2.1
def mstat (k : Nat) : Bool := (mro k).2.2.2.2.2.1
abbrev prow : Type := Nat × (Nat × Nat × Nat) × Nat
def ptab0 : List prow := [(3, (7, 0, 0), 1181), (9, (5, 10, 3), 1182), (11, (3, 0, 2), 1187), (17, (1, 0, 1), 1186), (21, (5, 2, 6), 2148), (23, (4, 7, 0), 2149), (24, (4, 106, 1), 2150), (27, (4, 107, 1), 2151), (31, (1, 0, 0), 1184), (34, (9, 0, 0), 2172)]
def ptab1 : List prow := [(3, (7, 0, 0), 2071), (9, (3, 1, 3), 2078), (15, (3, 1, 4), 2079), (19, (1, 1, 0), 2072), (23, (1, 1, 1), 2074), (26, (1, 1, 2), 2076), (29, (4, 10, 0), 5032), (35, (4, 56, 1), 5033), (41, (3, 5, 4), 1124), (44, (4, 5, 2), 5034), (48, (1, 1, 5), 2080), (51, (4, 6, 1), 5038), (55, (4, 22, 2), 5042)]
def ptab2 : List prow := [(3, (7, 0, 0), 1032), (9, (3, 2, 2), 1043), (15, (3, 2, 3), 1047), (18, (3, 2, 4), 1051), (22, (3, 2, 5), 1055), (25, (4, 8, 2), 1033), (29, (1, 2, 0), 1037), (33, (1, 2, 1), 1040), (36, (6, 0, 0), 2159), (42, (4, 10, 0), 2197), (46, (4, 12, 1), 2231), (50, (4, 11, 1), 2227), (53, (4, 13, 1), 2226), (57, (4, 16, 1), 3178), (60, (4, 17, 1), 3182), (63, (4, 19, 1), 3003), (66, (4, 20, 2), 2239), (70, (4, 15, 1), 5122), (73, (4, 25, 1), 5123), (76, (10, 0, 0), 3017), (81, (9, 0, 0), 3078), (84, (4, 28, 1), 3115), (87, (4, 27, 2), 3116), (90, (4, 22, 2), 3013), (93, (8, 0, 0), 3020)]
def ptab3 : List prow := [(3, (7, 0, 0), 2020), (9, (3, 3, 0), 2021), (15, (3, 3, 1), 2023), (19, (3, 3, 2), 2025), (22, (3, 3, 3), 2026), (25, (3, 10, 0), 1163), (31, (4, 10, 0), 3172), (37, (4, 14, 1), 3173), (41, (4, 18, 1), 3174), (44, (4, 109, 1), 3186), (47, (1, 3, 4), 2027), (51, (4, 289, 2), 3194), (57, (3, 10, 2), 1167), (61, (4, 56, 1), 3195), (66, (4, 36, 3), 3199), (70, (4, 22, 2), 3203), (74, (4, 23, 2), 3204), (77, (3, 2, 3), 1048), (80, (9, 0, 0), 3208), (85, (4, 37, 3), 3209), (89, (4, 39, 2), 3221)]
def ptab4 : List prow := [(3, (7, 0, 0), 1082), (9, (3, 4, 2), 1087), (15, (3, 4, 3), 1089), (18, (3, 4, 4), 1091), (21, (1, 4, 0), 1083), (25, (1, 4, 1), 1085), (28, (4, 289, 2), 2184), (34, (6, 0, 0), 2166), (40, (4, 29, 2), 3111), (46, (4, 45, 2), 3117), (50, (4, 44, 3), 3132), (54, (4, 11, 1), 3121), (58, (4, 12, 1), 3122), (61, (9, 0, 0), 3136), (66, (8, 0, 0), 3137), (69, (4, 46, 4), 3128), (73, (4, 47, 4), 3124), (76, (4, 28, 1), 3123), (79, (1, 2, 0), 1038), (82, (1, 2, 1), 1041)]
def ptab5 : List prow := [(3, (7, 0, 0), 1110), (9, (3, 5, 4), 1123), (15, (3, 5, 5), 1128), (18, (3, 5, 6), 1130), (21, (3, 5, 7), 1134), (24, (3, 5, 8), 1136), (27, (3, 5, 9), 1138), (30, (4, 289, 2), 1111), (36, (2, 5, 0), 1114), (40, (1, 5, 1), 1116), (44, (1, 5, 2), 1118), (47, (1, 5, 3), 1120), (50, (6, 0, 0), 2171), (56, (4, 49, 0), 3158), (59, (4, 10, 0), 3159), (65, (4, 24, 0), 3160), (68, (4, 38, 0), 3217), (73, (3, 3, 1), 2024), (76, (4, 53, 3), 3225), (80, (4, 55, 1), 3230), (84, (4, 54, 2), 3235), (88, (4, 36, 3), 3239), (92, (4, 20, 2), 3229), (96, (3, 2, 2), 1045), (99, (4, 56, 1), 3234), (103, (3, 2, 4), 1054), (107, (3, 2, 3), 1050), (118, (11, 0, 0), 5001), (132, (4, 22, 2), 5051)]
def ptab6 : List prow := [(3, (7, 0, 0), 1200), (9, (3, 6, 1), 1203), (15, (1, 6, 0), 1201), (19, (6, 0, 0), 5111), (25, (9, 0, 0), 5093)]
def ptab7 : List prow := [(3, (7, 0, 0), 1236), (9, (3, 7, 1), 1239), (15, (3, 7, 2), 2001), (18, (3, 7, 3), 2002), (21, (3, 7, 4), 2003), (24, (1, 7, 0), 1237), (28, (4, 10, 0), 2221), (34, (4, 15, 1), 2222), (38, (4, 25, 1), 2235), (42, (4, 27, 2), 3027), (46, (9, 0, 0), 3031), (51, (4, 73, 1), 3061), (55, (4, 78, 1), 3066), (58, (4, 80, 1), 3079), (61, (4, 41, 0), 3106), (66, (4, 43, 3), 3107), (70, (4, 79, 3), 3070), (73, (4, 28, 1), 3074), (76, (4, 290, 4), 3083), (82, (4, 83, 2), 3089), (86, (4, 81, 3), 3092), (90, (4, 84, 2), 3099), (93, (4, 82, 4), 3096)]
def ptab8 : List prow := [(5, (7, 0, 0), 2044), (11, (3, 8, 3), 2050), (17, (3, 8, 4), 2051), (20, (3, 8, 5), 2052), (23, (1, 8, 2), 2049), (27, (4, 10, 0), 4051), (33, (4, 14, 1), 4052), (37, (4, 16, 1), 4053), (41, (4, 17, 1), 4054), (44, (4, 87, 4), 4055), (48, (4, 56, 1), 4059), (53, (3, 5, 6), 1131), (56, (4, 89, 2), 4060), (60, (4, 90, 4), 4063), (64, (4, 88, 2), 4069), (68, (4, 20, 2), 4066), (71, (3, 5, 4), 1125), (77, (9, 0, 0), 4225), (82, (8, 0, 0), 4226), (85, (4, 92, 2), 4077), (88, (4, 93, 3), 4081), (92, (1, 8, 0), 2045), (95, (1, 8, 1), 2047), (98, (4, 94, 2), 4085), (102, (10, 0, 0), 4088), (105, (1, 5, 3), 1121), (108, (4, 86, 2), 4047), (112, (4, 96, 0), 4073), (115, (4, 97, 3), 4089), (119, (4, 98, 3), 4095), (123, (4, 60, 3), 4093), (127, (4, 61, 3), 4094)]
def ptab9 : List prow := [(3, (7, 0, 0), 1214), (9, (3, 9, 3), 1221), (15, (1, 9, 0), 1215), (19, (4, 102, 2), 4119), (23, (4, 103, 2), 4122), (26, (1, 9, 1), 1217), (29, (1, 9, 2), 1219), (32, (4, 104, 1), 4126), (36, (4, 10, 0), 4133), (42, (4, 12, 1), 4134), (45, (3, 2, 4), 1053), (49, (3, 2, 2), 1046), (52, (4, 19, 1), 4135)]
def ptab10 : List prow := [(3, (7, 0, 0), 1076), (9, (3, 10, 0), 1161), (15, (5, 4, 5), 1077), (17, (4, 40, 0), 1079), (18, (3, 10, 1), 1164), (22, (5, 5, 10), 1105), (24, (4, 48, 0), 1107), (25, (3, 10, 2), 1166), (29, (4, 9, 1), 2155), (35, (4, 42, 1), 2162), (38, (4, 50, 1), 2167), (41, (4, 8, 2), 2179), (45, (4, 41, 0), 2180), (48, (4, 49, 0), 2185), (49, (3, 2, 5), 1056), (53, (3, 4, 4), 1092), (57, (4, 10, 0), 4004), (61, (4, 109, 1), 4010), (65, (4, 113, 1), 4011), (68, (3, 5, 6), 1132), (71, (4, 16, 1), 4015), (75, (4, 17, 1), 4016), (78, (4, 56, 1), 4017), (81, (3, 5, 4), 1126), (84, (4, 20, 2), 4018), (88, (4, 14, 1), 4005), (91, (4, 111, 1), 4006), (94, (4, 112, 1), 5068)]
def ptab11 : List prow := [(3, (7, 0, 0), 1022), (9, (5, 10, 3), 1025), (11, (5, 2, 6), 1027), (13, (4, 7, 0), 1029), (14, (4, 106, 1), 1073), (17, (3, 11, 0), 2094), (21, (3, 10, 0), 1162), (25, (3, 11, 1), 2095), (28, (5, 0, 3), 1176), (30, (4, 0, 0), 1178), (31, (3, 11, 2), 2096), (35, (5, 6, 2), 1195), (37, (4, 67, 0), 1197), (38, (3, 11, 3), 2097), (42, (5, 9, 4), 1209), (44, (4, 99, 0), 1211), (45, (3, 11, 4), 2098), (49, (5, 7, 5), 1231), (51, (4, 72, 0), 1233), (52, (3, 11, 5), 2099), (56, (5, 3, 5), 2015), (58, (4, 33, 0), 2017), (59, (3, 11, 6), 2100), (63, (5, 8, 6), 2039), (65, (4, 85, 0), 2041), (66, (3, 11, 7), 2101), (70, (5, 1, 6), 2066), (72, (4, 3, 0), 2068), (73, (3, 11, 8), 2102), (77, (1, 11, 10), 2104), (81, (4, 159, 1), 2141), (85, (4, 1, 1), 2144), (89, (4, 108, 2), 2175), (93, (4, 13, 1), 2193), (96, (3, 2, 2), 1044), (100, (4, 19, 1), 2201), (104, (3, 10, 2), 1168), (108, (4, 49, 0), 2204), (113, (3, 2, 4), 1052), (117, (3, 2, 3), 1049), (120, (4, 73, 1), 2217), (123, (4, 10, 0), 3004), (127, (4, 161, 2), 3005), (131, (4, 11, 1), 3037), (134, (4, 12, 1), 3038), (137, (4, 160, 1), 3043), (140, (1, 11, 9), 2103), (143, (4, 75, 2), 3057), (147, (4, 76, 2), 3062), (151, (3, 10, 1), 1165), (155, (4, 77, 2), 3102), (159, (1, 7, 0), 1238), (162, (1, 4, 1), 1086), (167, (4, 69, 3), 3138), (171, (4, 14, 1), 3146), (174, (3, 2, 5), 1057), (177, (4, 51, 1), 3154), (180, (1, 5, 1), 1117), (183, (2, 5, 0), 1115), (187, (4, 34, 1), 3168), (190, (4, 35, 1), 3190), (193, (1, 5, 3), 1122), (196, (4, 52, 2), 3213), (200, (3, 5, 8), 1137), (203, (4, 114, 0), 4000), (206, (4, 57, 1), 4023), (209, (4, 60, 3), 4027), (213, (4, 61, 3), 4034), (217, (4, 50, 1), 4042), (221, (4, 95, 2), 4043), (225, (1, 9, 0), 1216), (228, (4, 100, 1), 4103), (232, (4, 101, 0), 4115), (235, (1, 9, 1), 1218), (238, (1, 9, 2), 1220), (241, (4, 105, 1), 4129), (243, (4, 56, 1), 4144), (246, (3, 5, 5), 1129), (249, (3, 5, 6), 1133), (252, (4, 59, 1), 4145), (255, (3, 5, 7), 1135), (259, (3, 5, 4), 1127), (262, (4, 21, 1), 4158), (265, (4, 18, 1), 4162), (268, (3, 4, 4), 1093), (271, (4, 111, 1), 4163), (274, (4, 112, 1), 4164), (277, (4, 16, 1), 4168), (280, (4, 17, 1), 4169), (283, (9, 0, 0), 3032), (288, (4, 15, 1), 4174), (291, (4, 25, 1), 4175), (294, (3, 7, 1), 2000), (297, (4, 28, 1), 4184), (300, (4, 27, 2), 4185), (303, (1, 4, 0), 1084), (304, (3, 4, 2), 1088), (307, (3, 4, 3), 1090), (310, (4, 29, 2), 4190), (313, (1, 2, 0), 1039), (314, (1, 2, 1), 1042), (315, (4, 31, 4), 4195), (319, (4, 32, 4), 4199), (323, (4, 58, 2), 4207), (327, (3, 5, 9), 1139), (330, (4, 116, 1), 4211), (334, (4, 86, 2), 4220), (337, (4, 91, 2), 4221), (340, (1, 8, 1), 2048), (343, (1, 8, 0), 2046), (350, (4, 62, 2), 4237), (358, (4, 63, 1), 5012), (362, (4, 64, 1), 5016), (365, (4, 4, 3), 5028), (369, (1, 1, 0), 2073), (370, (1, 1, 1), 2075), (373, (1, 1, 2), 2077), (376, (4, 65, 2), 5047), (379, (4, 162, 0), 5060), (382, (4, 115, 0), 5064), (385, (4, 66, 2), 5069), (388, (3, 3, 0), 2022), (391, (4, 2, 1), 5081), (395, (1, 0, 0), 1185), (396, (4, 70, 1), 5089), (399, (4, 71, 2), 5094), (402, (4, 163, 0), 5102), (405, (3, 11, 11), 2105), (408, (3, 11, 12), 2106), (411, (4, 107, 1), 5106), (413, (4, 68, 1), 5107), (416, (1, 11, 13), 2107), (419, (4, 24, 0), 5116), (422, (4, 140, 1), 5117), (425, (4, 26, 0), 5118), (428, (4, 110, 0), 5124), (431, (1, 5, 2), 1119), (434, (1, 6, 0), 1202), (439, (4, 30, 1), 3009), (442, (4, 74, 2), 3023)]
def ptab12 : List prow := [(1, (7, 0, 0), 5133), (7, (3, 12, 1), 5135), (13, (3, 12, 2), 5136), (16, (3, 12, 4), 5138), (19, (3, 12, 6), 5140), (22, (3, 12, 8), 5142), (25, (3, 12, 10), 5144), (28, (3, 12, 11), 5145), (31, (3, 12, 14), 5148), (34, (3, 12, 15), 5149), (37, (1, 12, 17), 5151), (41, (3, 12, 18), 5152), (44, (3, 12, 19), 5153), (48, (3, 12, 22), 5156), (51, (3, 12, 24), 5158), (54, (3, 12, 25), 5159), (57, (1, 12, 0), 5134), (60, (4, 166, 0), 6015), (64, (4, 167, 0), 6019), (67, (4, 168, 0), 6011), (72, (4, 170, 1), 6036), (76, (4, 177, 1), 6031), (80, (4, 175, 1), 6064), (83, (4, 174, 1), 6068), (86, (4, 180, 1), 6207), (89, (4, 172, 1), 6044), (93, (4, 181, 1), 6211), (96, (4, 171, 1), 6223), (99, (1, 12, 5), 5139), (102, (1, 12, 7), 5141), (105, (4, 186, 0), 5235), (108, (4, 187, 0), 6027), (111, (4, 185, 3), 5223), (115, (4, 165, 3), 5231), (119, (4, 190, 2), 5239), (123, (4, 169, 1), 6007), (126, (4, 188, 0), 6023), (129, (4, 195, 2), 6060), (133, (4, 178, 2), 6072), (136, (4, 176, 1), 6076), (139, (4, 206, 1), 6084), (142, (4, 198, 2), 6092), (145, (4, 197, 1), 6056), (148, (4, 199, 1), 6080), (152, (1, 12, 3), 5137), (156, (4, 202, 1), 6104), (159, (4, 205, 1), 6088), (162, (4, 207, 2), 6146), (165, (4, 208, 1), 6142), (168, (1, 12, 9), 5143), (171, (4, 209, 1), 6138), (174, (4, 211, 2), 6150), (178, (4, 212, 0), 6134), (182, (4, 215, 1), 6163), (186, (4, 210, 0), 6122), (189, (4, 213, 0), 6130), (192, (4, 214, 0), 6154), (195, (4, 216, 2), 6159), (198, (4, 217, 2), 6167), (201, (4, 219, 1), 6118), (204, (4, 218, 1), 6126), (207, (4, 179, 1), 6175), (210, (4, 173, 1), 6187), (213, (4, 223, 4), 6231), (217, (4, 196, 2), 6199), (220, (4, 182, 1), 6203), (223, (4, 183, 1), 6215), (226, (4, 184, 1), 6219), (229, (4, 224, 0), 6227), (232, (4, 222, 0), 6183), (235, (4, 225, 0), 6195), (239, (4, 232, 0), 6235), (242, (4, 229, 1), 7003), (245, (4, 228, 1), 7007), (248, (4, 230, 1), 6239), (251, (4, 231, 1), 7105), (254, (4, 234, 1), 7015), (257, (4, 235, 2), 7019), (260, (4, 236, 2), 7023), (263, (1, 12, 13), 5147), (266, (4, 239, 3), 7035), (269, (4, 238, 2), 7039), (272, (1, 12, 12), 5146), (275, (4, 240, 2), 7043), (278, (4, 241, 2), 7031), (282, (4, 243, 0), 7052), (285, (4, 244, 0), 7056), (288, (1, 12, 16), 5150), (291, (4, 246, 1), 7064), (294, (1, 12, 20), 5154), (297, (1, 12, 21), 5155), (300, (4, 249, 1), 7080), (303, (4, 250, 1), 7076), (306, (4, 253, 1), 7092), (310, (4, 261, 1), 7129), (313, (4, 262, 1), 7133), (326, (4, 267, 1), 7157), (330, (4, 270, 2), 7173), (333, (4, 271, 1), 7169), (336, (4, 272, 2), 7177), (339, (4, 274, 1), 7185), (342, (4, 277, 0), 7197), (345, (4, 233, 0), 7201), (348, (4, 278, 1), 7205), (352, (2, 12, 23), 5157), (356, (1, 12, 26), 5160), (359, (1, 12, 27), 5161), (362, (4, 283, 2), 7225), (365, (4, 284, 0), 7229), (368, (4, 285, 0), 7233), (371, (4, 286, 0), 7237)]
def ptab13 : List prow := []
def ptab14 : List prow := [(13, (4, 288, 3), 3086)]
def ptab15 : List prow := [(7, (5, 11, 14), 1017), (9, (4, 117, 0), 1019), (10, (5, 12, 28), 5128), (12, (4, 164, 0), 5130), (13, (4, 118, 2), 2137), (17, (4, 191, 2), 5227), (18, (4, 119, 2), 2189), (22, (4, 192, 2), 6003), (23, (4, 120, 2), 2205), (27, (4, 193, 2), 6040), (28, (4, 121, 2), 2209), (31, (4, 194, 2), 6048), (32, (4, 122, 1), 2213), (36, (4, 200, 1), 6052), (37, (4, 123, 2), 3033), (40, (4, 201, 2), 6096), (41, (4, 124, 1), 3039), (45, (4, 203, 1), 6100), (46, (4, 125, 1), 3049), (49, (4, 204, 1), 6110), (50, (4, 126, 1), 3053), (53, (4, 220, 1), 6114), (54, (4, 127, 2), 3142), (57, (4, 221, 2), 6171), (58, (4, 128, 0), 3150), (62, (4, 226, 0), 6179), (63, (4, 129, 1), 3164), (66, (4, 227, 1), 6191), (67, (4, 130, 2), 4019), (70, (4, 237, 2), 7011), (71, (4, 131, 0), 4038), (74, (4, 245, 0), 7048), (75, (4, 132, 5), 4099), (79, (4, 247, 5), 7060), (80, (4, 133, 1), 4107), (83, (4, 248, 1), 7068), (84, (4, 134, 0), 4111), (87, (4, 251, 0), 7072), (88, (4, 135, 0), 4136), (91, (4, 252, 0), 7084), (92, (4, 136, 2), 4140), (95, (4, 254, 2), 7088), (96, (4, 137, 1), 4149), (99, (4, 255, 1), 7096), (100, (4, 138, 2), 4154), (103, (4, 256, 2), 7101), (104, (4, 139, 1), 4170), (107, (4, 257, 1), 7109), (108, (4, 140, 1), 4176), (111, (4, 258, 1), 7113), (112, (4, 141, 2), 4180), (115, (4, 259, 2), 7117), (116, (4, 142, 2), 4186), (119, (4, 260, 2), 7121), (120, (4, 144, 2), 4203), (123, (4, 263, 2), 7125), (124, (4, 145, 3), 4215), (128, (4, 242, 3), 7027), (129, (4, 143, 4), 4191), (133, (4, 264, 4), 7137), (134, (4, 146, 1), 4227), (138, (4, 265, 1), 7141), (141, (4, 147, 2), 4232), (145, (4, 266, 2), 7146), (146, (4, 148, 1), 5008), (149, (4, 268, 1), 7153), (150, (4, 149, 2), 5020), (153, (4, 269, 2), 7161), (154, (4, 150, 2), 5024), (157, (4, 273, 2), 7165), (158, (4, 151, 1), 5043), (161, (4, 275, 1), 7181), (162, (4, 152, 2), 5052), (165, (4, 276, 2), 7189), (166, (4, 153, 2), 5056), (169, (4, 279, 2), 7193), (170, (4, 154, 1), 5073), (173, (4, 280, 1), 7209), (174, (4, 155, 0), 5077), (177, (4, 189, 0), 5219), (178, (4, 156, 2), 5085), (181, (4, 281, 2), 7213), (182, (4, 157, 1), 5098), (186, (4, 282, 1), 7217), (187, (4, 158, 1), 5112), (190, (4, 287, 1), 7221)]
def ptabs : List (List prow) := [ptab0, ptab1, ptab2, ptab3, ptab4, ptab5, ptab6, ptab7, ptab8, ptab9, ptab10, ptab11, ptab12, ptab13, ptab14, ptab15]
def pfind (l : List prow) (idx : Nat) : Option (Nat × Nat × Nat) := (l.find? (fun r => r.1 == idx)).map (fun r => r.2.1)
def pool (c idx : Nat) : Option (Nat × Nat × Nat) := pfind (ptabs.getD c []) idx
def ctabs : List (List (Nat × Int × Nat)) := [[], [], [], [], [], [], [], [], [(76, -2147483648, 4068)], [], [], [(437, 1664525, 3047), (438, 1013904223, 3048), (258, -100000000, 4153), (333, -1000000000, 4219)], [(151, 1664525, 6108), (155, 1013904223, 6109), (181, 1000000, 6158), (281, -1000000000, 7047), (309, -100000000, 7100)], [], [], []]
def cst (c idx : Nat) : Option Int := ((ctabs.getD c []).find? (fun r => r.1 == idx)).map (fun r => r.2.1)
def ltabs : List (List (Nat × Int × Nat)) := [[], [], [], [], [], [(110, 255, 4031), (114, -2147483648, 4032), (116, 2147483647, 4033), (124, 3037000499, 5004), (128, 9223372036854775807, 5005), (130, -1, 5006)], [], [], [(74, 255, 4067)], [], [], [(346, -1000000000000, 4231), (348, -1, 4236), (356, 9223372036854775807, 5007)], [(70, 255, 6035), (316, -1000000000000, 7145), (318, -1, 7150), (320, 3037000499, 7151), (324, 9223372036854775807, 7152)], [], [], [(139, 4294967295, 8001)]]
def csl (c idx : Nat) : Option Int := ((ltabs.getD c []).find? (fun r => r.1 == idx)).map (fun r => r.2.1)
def lwc : List (List Cond) := [k2_sels lw_privs, tables_1_1, tables_1_2, tables_1_3, tables_1_4, tables_1_5, tables_1_6, tables_1_7, tables_1_8]
end
section
/-! THE SMALL MACHINE: whole numbers are Ints in range, references are places, the heap is two functions -/
abbrev MV : Type := Int ⊕ (Int ⊕ Option Nat)
abbrev vi (x : Int) : MV := Sum.inl x
abbrev vl (x : Int) : MV := Sum.inr (Sum.inl x)
abbrev vq (r : Option Nat) : MV := Sum.inr (Sum.inr r)
abbrev vr (a : Nat) : MV := Sum.inr (Sum.inr (some a))
abbrev vn : MV := Sum.inr (Sum.inr none)
/-- how many cells, how many slots, each cell's kind and length, references, numbers -/
abbrev MM : Type := Nat × Nat × (Nat → Nat × Nat) × (Nat → Nat → Option Nat) × (Nat → Nat → Int)
def wI (x : Int) : Int := (x + 2147483648) % 4294967296 - 2147483648
def wL (x : Int) : Int := (x + 9223372036854775808) % 18446744073709551616 - 9223372036854775808
def inI (x : Int) : Prop := -2147483648 ≤ x ∧ x < 2147483648
def inL (x : Int) : Prop := -9223372036854775808 ≤ x ∧ x < 9223372036854775808
theorem wI_id {x : Int} (h : inI x) : wI x = x := by unfold wI; unfold inI at h; omega
theorem wI_in (x : Int) : inI (wI x) := by unfold wI inI; omega
theorem wL_id {x : Int} (h : inL x) : wL x = x := by unfold wL; unfold inL at h; omega
theorem wL_in (x : Int) : inL (wL x) := by unfold wL inL; omega
def up {α : Type} (f : Nat → Nat → α) (a k : Nat) (x : α) : Nat → Nat → α := fun b j => if b = a ∧ j = k then x else f b j
def upz {α : Type} (f : Nat → Nat → α) (a : Nat) (x : α) : Nat → Nat → α := fun b j => if b = a then x else f b j
def upk {α : Type} (f : Nat → α) (a : Nat) (x : α) : Nat → α := fun b => if b = a then x else f b
def cpI (f : Nat → Nat → Int) (a b sp dp n : Nat) : Nat → Nat → Int := fun c j => if c = b ∧ dp ≤ j ∧ j < dp + n then f a (sp + (j - dp)) else f c j
def kl (ls : List MV) (i : Nat) : List MV := match ls[i - 1]? with
  | some (Sum.inr (Sum.inl _)) => ls.set (i - 1) vn
  | _ => ls
def st1 (ls : List MV) (i : Nat) (v : MV) : List MV := (kl ls i).set i v
def st2 (ls : List MV) (i : Nat) (v : MV) : List MV := ((kl ls i).set i v).set (i + 1) vn
def wd : MV → Nat
  | Sum.inr (Sum.inl _) => 2
  | _ => 1
def wds (st : List MV) : Nat := (st.map wd).sum
def cmI (c : Jvm.ClassFile.Cond) (x y : Int) : Prop := match c with
  | .eq => x = y
  | .ne => x ≠ y
  | .lt => x < y
  | .ge => y ≤ x
  | .gt => y < x
  | .le => x ≤ y
def flt (a : List MV) : List MV := a.flatMap fun v => match v with
  | Sum.inr (Sum.inl x) => [vl x, vn]
  | v => [v]
def ent (k : Nat) (a : List MV) : List MV := flt a ++ List.replicate (mmaxl k - (flt a).length) vn
def sHl (x y : Int) : Int := (Int32.ofInt x <<< (Int32.ofInt y &&& 31)).toInt
def sHr (x y : Int) : Int := (Int32.ofInt x >>> (Int32.ofInt y &&& 31)).toInt
def sUr (x y : Int) : Int := ((Int32.ofInt x).toUInt32 >>> ((Int32.ofInt y).toUInt32 &&& Int32.toUInt32 31)).toInt32.toInt
def aNd (x y : Int) : Int := (Int32.ofInt x &&& Int32.ofInt y).toInt
def xOr (x y : Int) : Int := (Int32.ofInt x ^^^ Int32.ofInt y).toInt
def lAnd (x y : Int) : Int := (Int64.ofInt x &&& Int64.ofInt y).toInt
def lOr (x y : Int) : Int := (Int64.ofInt x ||| Int64.ofInt y).toInt
def lShl (x y : Int) : Int := (Int64.ofInt x <<< ((Int32.ofInt y).toInt64 &&& 63)).toInt
def lCm (x y : Int) : Int := if y < x then 1 else if x = y then 0 else -1
def mxI (x y : Int) : Int := if x < y then y else x
def mnI (x y : Int) : Int := if y < x then y else x
def abI (x : Int) : Int := if 0 ≤ x then x else wI (0 - x)
def abL (x : Int) : Int := if 0 < x then x else wL (-x)
abbrev Cl : Type := Nat → List MV → MM → Option MV → MM → Prop
abbrev Nx : Type := Nat → List MV → List MV → MM → Prop
/-- what an instruction asks, and where it goes on -/
def stepI (call : Cl) (k : Nat) (i : Instr) (len pc : Nat) (ls st : List MV) (M : MM) (C : Nx) : Prop := match i with
  | .iconst n => len = 1 ∧ inI n ∧ C (pc + 1) ls (vi n :: st) M
  | .bipush n => len = 2 ∧ inI n ∧ (Int8.ofInt n).toInt32 = Int32.ofInt n ∧ C (pc + 2) ls (vi n :: st) M
  | .sipush n => len = 3 ∧ inI n ∧ (Int16.ofInt n).toInt32 = Int32.ofInt n ∧ C (pc + 3) ls (vi n :: st) M
  | .lconst l => len = 1 ∧ C (pc + 1) ls (vl ((l : Nat) : Int) :: st) M
  | .ldc idx => len = 2 ∧ ∃ x, cst (mcls k) idx = some x ∧ inI x ∧ C (pc + 2) ls (vi x :: st) M
  | .ldc_w idx => len = 3 ∧ ∃ x, cst (mcls k) idx = some x ∧ inI x ∧ C (pc + 3) ls (vi x :: st) M
  | .ldc2_w idx => len = 3 ∧ ∃ x, csl (mcls k) idx = some x ∧ inL x ∧ C (pc + 3) ls (vl x :: st) M
  | .iload i => len = 2 ∧ ∃ x, ls[i]? = some (vi x) ∧ C (pc + 2) ls (vi x :: st) M
  | .iload_n i => len = 1 ∧ ∃ x, ls[(i : Nat)]? = some (vi x) ∧ C (pc + 1) ls (vi x :: st) M
  | .lload i => len = 2 ∧ ∃ x, ls[i]? = some (vl x) ∧ C (pc + 2) ls (vl x :: st) M
  | .lload_n i => len = 1 ∧ ∃ x, ls[(i : Nat)]? = some (vl x) ∧ C (pc + 1) ls (vl x :: st) M
  | .aload i => len = 2 ∧ ∃ x, ls[i]? = some (vr x) ∧ C (pc + 2) ls (vr x :: st) M
  | .aload_n i => len = 1 ∧ ∃ x, ls[(i : Nat)]? = some (vr x) ∧ C (pc + 1) ls (vr x :: st) M
  | .istore i => len = 2 ∧ ∃ x t, st = vi x :: t ∧ i < ls.length ∧ C (pc + 2) (st1 ls i (vi x)) t M
  | .istore_n i => len = 1 ∧ ∃ x t, st = vi x :: t ∧ (i : Nat) < ls.length ∧ C (pc + 1) (st1 ls i (vi x)) t M
  | .lstore i => len = 2 ∧ ∃ x t, st = vl x :: t ∧ i + 1 < ls.length ∧ C (pc + 2) (st2 ls i (vl x)) t M
  | .lstore_n i => len = 1 ∧ ∃ x t, st = vl x :: t ∧ (i : Nat) + 1 < ls.length ∧ C (pc + 1) (st2 ls i (vl x)) t M
  | .astore i => len = 2 ∧ ∃ x t, st = vr x :: t ∧ i < ls.length ∧ C (pc + 2) (st1 ls i (vr x)) t M
  | .astore_n i => len = 1 ∧ ∃ x t, st = vr x :: t ∧ (i : Nat) < ls.length ∧ C (pc + 1) (st1 ls i (vr x)) t M
  | .iinc i n => len = 3 ∧ ∃ x, ls[i]? = some (vi x) ∧ C (pc + 3) (st1 ls i (vi (wI (x + n)))) st M
  | .iadd => len = 1 ∧ ∃ x y t, st = vi y :: vi x :: t ∧ C (pc + 1) ls (vi (wI (x + y)) :: t) M
  | .isub => len = 1 ∧ ∃ x y t, st = vi y :: vi x :: t ∧ C (pc + 1) ls (vi (wI (x - y)) :: t) M
  | .imul => len = 1 ∧ ∃ x y t, st = vi y :: vi x :: t ∧ C (pc + 1) ls (vi (wI (x * y)) :: t) M
  | .idiv => len = 1 ∧ ∃ x y t, st = vi y :: vi x :: t ∧ y ≠ 0 ∧ C (pc + 1) ls (vi (wI (x.tdiv y)) :: t) M
  | .irem => len = 1 ∧ ∃ x y t, st = vi y :: vi x :: t ∧ y ≠ 0 ∧ C (pc + 1) ls (vi (x.tmod y) :: t) M
  | .iand => len = 1 ∧ ∃ x y t, st = vi y :: vi x :: t ∧ C (pc + 1) ls (vi (aNd x y) :: t) M
  | .ixor => len = 1 ∧ ∃ x y t, st = vi y :: vi x :: t ∧ C (pc + 1) ls (vi (xOr x y) :: t) M
  | .ishl => len = 1 ∧ ∃ x y t, st = vi y :: vi x :: t ∧ C (pc + 1) ls (vi (sHl x y) :: t) M
  | .ishr => len = 1 ∧ ∃ x y t, st = vi y :: vi x :: t ∧ C (pc + 1) ls (vi (sHr x y) :: t) M
  | .iushr => len = 1 ∧ ∃ x y t, st = vi y :: vi x :: t ∧ C (pc + 1) ls (vi (sUr x y) :: t) M
  | .ineg => len = 1 ∧ ∃ x t, st = vi x :: t ∧ C (pc + 1) ls (vi (wI (-x)) :: t) M
  | .ladd => len = 1 ∧ ∃ x y t, st = vl y :: vl x :: t ∧ C (pc + 1) ls (vl (wL (x + y)) :: t) M
  | .lsub => len = 1 ∧ ∃ x y t, st = vl y :: vl x :: t ∧ C (pc + 1) ls (vl (wL (x - y)) :: t) M
  | .lmul => len = 1 ∧ ∃ x y t, st = vl y :: vl x :: t ∧ C (pc + 1) ls (vl (wL (x * y)) :: t) M
  | .ldiv => len = 1 ∧ ∃ x y t, st = vl y :: vl x :: t ∧ y ≠ 0 ∧ C (pc + 1) ls (vl (wL (x.tdiv y)) :: t) M
  | .lrem => len = 1 ∧ ∃ x y t, st = vl y :: vl x :: t ∧ y ≠ 0 ∧ C (pc + 1) ls (vl (x.tmod y) :: t) M
  | .land => len = 1 ∧ ∃ x y t, st = vl y :: vl x :: t ∧ C (pc + 1) ls (vl (lAnd x y) :: t) M
  | .lor => len = 1 ∧ ∃ x y t, st = vl y :: vl x :: t ∧ C (pc + 1) ls (vl (lOr x y) :: t) M
  | .lshl => len = 1 ∧ ∃ x y t, st = vi y :: vl x :: t ∧ C (pc + 1) ls (vl (lShl x y) :: t) M
  | .lneg => len = 1 ∧ ∃ x t, st = vl x :: t ∧ C (pc + 1) ls (vl (wL (-x)) :: t) M
  | .lcmp => len = 1 ∧ ∃ x y t, st = vl y :: vl x :: t ∧ C (pc + 1) ls (vi (lCm x y) :: t) M
  | .i2l => len = 1 ∧ ∃ x t, st = vi x :: t ∧ C (pc + 1) ls (vl x :: t) M
  | .l2i => len = 1 ∧ ∃ x t, st = vl x :: t ∧ C (pc + 1) ls (vi (wI x) :: t) M
  | .dup => len = 1 ∧ ∃ v t, st = v :: t ∧ wd v = 1 ∧ C (pc + 1) ls (v :: v :: t) M
  | .dup2 => len = 1 ∧ ∃ v w t, st = v :: w :: t ∧ wd v = 1 ∧ wd w = 1 ∧ C (pc + 1) ls (v :: w :: v :: w :: t) M
  | .pop => len = 1 ∧ ∃ v t, st = v :: t ∧ wd v = 1 ∧ C (pc + 1) ls t M
  | .if_icmp c off => len = 3 ∧ ∃ x y t, st = vi y :: vi x :: t ∧ ∃ tgt : Nat, (pc : Int) + off = (tgt : Int) ∧ (cmI c x y → C tgt ls t M) ∧ (¬ cmI c x y → C (pc + 3) ls t M)
  | .ifCond c off => len = 3 ∧ ∃ x t, st = vi x :: t ∧ ∃ tgt : Nat, (pc : Int) + off = (tgt : Int) ∧ (cmI c x 0 → C tgt ls t M) ∧ (¬ cmI c x 0 → C (pc + 3) ls t M)
  | .goto off => len = 3 ∧ ∃ tgt : Nat, (pc : Int) + off = (tgt : Int) ∧ C tgt ls st M
  | .ifnull off => len = 3 ∧ ∃ q t, st = vq q :: t ∧ ∃ tgt : Nat, (pc : Int) + off = (tgt : Int) ∧ (q = none → C tgt ls t M) ∧ (q ≠ none → C (pc + 3) ls t M)
  | .ifnonnull off => len = 3 ∧ ∃ q t, st = vq q :: t ∧ ∃ tgt : Nat, (pc : Int) + off = (tgt : Int) ∧ (q ≠ none → C tgt ls t M) ∧ (q = none → C (pc + 3) ls t M)
  | .tableswitch df lo hi offs => ∃ x t, st = vi x :: t ∧ (((x < lo ∨ hi < x) ∧ ∃ tgt : Nat, (pc : Int) + df = (tgt : Int) ∧ C tgt ls t M) ∨ (¬ x < lo ∧ ¬ hi < x ∧ ∃ (off : Int) (tgt : Nat), offs[(x - lo).toNat]? = some off ∧ (pc : Int) + off = (tgt : Int) ∧ C tgt ls t M))
  | .getfield idx => len = 3 ∧ ∃ g c j a t v, st = vr a :: t ∧ pool (mcls k) idx = some (g, c, j) ∧ M.2.2.1 a = (c, 0) ∧ ((g = 1 ∧ v = vi (M.2.2.2.2 a j)) ∨ (g = 2 ∧ v = vi (M.2.2.2.2 a j)) ∨ (g = 3 ∧ v = vq (M.2.2.2.1 a j))) ∧ C (pc + 3) ls (v :: t) M
  | .putfield idx => len = 3 ∧ ∃ g c j a t v M1, st = v :: vr a :: t ∧ pool (mcls k) idx = some (g, c, j) ∧ M.2.2.1 a = (c, 0) ∧ (fn c j = false ∨ ((mname k).name = "<init>" ∧ mcls k = c)) ∧
      ((g = 1 ∧ ∃ x, v = vi x ∧ M1 = (M.1, M.2.1, M.2.2.1, M.2.2.2.1, up M.2.2.2.2 a j x)) ∨ (g = 2 ∧ ∃ x, v = vi x ∧ (x = 0 ∨ x = 1) ∧ M1 = (M.1, M.2.1, M.2.2.1, M.2.2.2.1, up M.2.2.2.2 a j x)) ∨ (g = 3 ∧ ∃ x, v = vr x ∧ M1 = (M.1, M.2.1, M.2.2.1, up M.2.2.2.1 a j (some x), M.2.2.2.2))) ∧ C (pc + 3) ls t M1
  | .iaload => len = 1 ∧ ∃ i a t n, st = vi i :: vr a :: t ∧ (M.2.2.1 a = (20, n) ∨ M.2.2.1 a = (23, n)) ∧ 0 ≤ i ∧ i < (n : Int) ∧ C (pc + 1) ls (vi (M.2.2.2.2 a i.toNat) :: t) M
  | .baload => len = 1 ∧ ∃ i a t n, st = vi i :: vr a :: t ∧ M.2.2.1 a = (21, n) ∧ 0 ≤ i ∧ i < (n : Int) ∧ C (pc + 1) ls (vi (M.2.2.2.2 a i.toNat) :: t) M
  | .aaload => len = 1 ∧ ∃ i a t n, st = vi i :: vr a :: t ∧ M.2.2.1 a = (22, n) ∧ 0 ≤ i ∧ i < (n : Int) ∧ C (pc + 1) ls (vq (M.2.2.2.1 a i.toNat) :: t) M
  | .iastore => len = 1 ∧ ∃ x i a t n, st = vi x :: vi i :: vr a :: t ∧ M.2.2.1 a = (20, n) ∧ 0 ≤ i ∧ i < (n : Int) ∧ C (pc + 1) ls t (M.1, M.2.1, M.2.2.1, M.2.2.2.1, up M.2.2.2.2 a i.toNat x)
  | .bastore => len = 1 ∧ ∃ x i a t n, st = vi x :: vi i :: vr a :: t ∧ M.2.2.1 a = (21, n) ∧ 0 ≤ i ∧ i < (n : Int) ∧ (x = 0 ∨ x = 1) ∧ C (pc + 1) ls t (M.1, M.2.1, M.2.2.1, M.2.2.2.1, up M.2.2.2.2 a i.toNat x)
  | .aastore => len = 1 ∧ ∃ x i a t n, st = vr x :: vi i :: vr a :: t ∧ M.2.2.1 a = (22, n) ∧ M.2.2.1 x = (10, 0) ∧ 0 ≤ i ∧ i < (n : Int) ∧ C (pc + 1) ls t (M.1, M.2.1, M.2.2.1, up M.2.2.2.1 a i.toNat (some x), M.2.2.2.2)
  | .arraylength => len = 1 ∧ ∃ a t g n, st = vr a :: t ∧ M.2.2.1 a = (g, n) ∧ (g = 20 ∨ g = 21 ∨ g = 22 ∨ g = 23) ∧ C (pc + 1) ls (vi (n : Int) :: t) M
  | .newarray ty => len = 2 ∧ ∃ n g t, st = vi n :: t ∧ 0 ≤ n ∧ n ≤ 100000 ∧ ((ty = .int ∧ g = 20) ∨ (ty = .boolean ∧ g = 21)) ∧ C (pc + 2) ls (vr M.1 :: t) (M.1 + 1, M.2.1 + n.toNat, upk M.2.2.1 M.1 (g, n.toNat), upz M.2.2.2.1 M.1 none, upz M.2.2.2.2 M.1 0)
  | .anewarray idx => len = 3 ∧ ∃ n t, st = vi n :: t ∧ pool (mcls k) idx = some (5, 10, 3) ∧ 0 ≤ n ∧ n ≤ 100000 ∧ C (pc + 3) ls (vr M.1 :: t) (M.1 + 1, M.2.1 + n.toNat, upk M.2.2.1 M.1 (22, n.toNat), upz M.2.2.2.1 M.1 none, upz M.2.2.2.2 M.1 0)
  | .new idx => len = 3 ∧ ∃ c n, pool (mcls k) idx = some (5, c, n) ∧ C (pc + 3) ls (vr M.1 :: st) (M.1 + 1, M.2.1 + n, upk M.2.2.1 M.1 (c, 0), upz M.2.2.2.1 M.1 none, upz M.2.2.2.2 M.1 0)
  | .invokevirtual idx => len = 3 ∧ ∃ y n as a t r M1, pool (mcls k) idx = some (4, y, n) ∧ st = as.reverse ++ (vr a :: t) ∧ as.length = n ∧ M.2.2.1 a = (mcls y, 0) ∧ mstat y = false ∧ ((mname y).name == "<init>") = false ∧ wds t ≤ 8 ∧ call y (vr a :: as) M r M1 ∧ C (pc + 3) ls (r.toList ++ t) M1
  | .invokestatic idx => len = 3 ∧ ((∃ y n as t r M1, pool (mcls k) idx = some (4, y, n) ∧ st = as.reverse ++ t ∧ as.length = n ∧ mstat y = true ∧ wds t ≤ 8 ∧ call y as M r M1 ∧ C (pc + 3) ls (r.toList ++ t) M1) ∨
      (∃ n dp b sp a g na nb t, pool (mcls k) idx = some (6, 0, 0) ∧ st = vi n :: vi dp :: vr b :: vi sp :: vr a :: t ∧ wds t ≤ 8 ∧ M.2.2.1 a = (g, na) ∧ M.2.2.1 b = (g, nb) ∧ (g = 20 ∨ g = 21) ∧ 0 ≤ n ∧ 0 ≤ dp ∧ 0 ≤ sp ∧ sp + n ≤ (na : Int) ∧ dp + n ≤ (nb : Int) ∧ C (pc + 3) ls t (M.1, M.2.1, M.2.2.1, M.2.2.2.1, cpI M.2.2.2.2 a b sp.toNat dp.toNat n.toNat)) ∨
      (∃ x y t, pool (mcls k) idx = some (8, 0, 0) ∧ st = vi y :: vi x :: t ∧ wds t ≤ 8 ∧ C (pc + 3) ls (vi (mxI x y) :: t) M) ∨
      (∃ x y t, pool (mcls k) idx = some (9, 0, 0) ∧ st = vi y :: vi x :: t ∧ wds t ≤ 8 ∧ C (pc + 3) ls (vi (mnI x y) :: t) M) ∨
      (∃ x t, pool (mcls k) idx = some (10, 0, 0) ∧ st = vi x :: t ∧ wds t ≤ 8 ∧ C (pc + 3) ls (vi (abI x) :: t) M) ∨
      (∃ x t, pool (mcls k) idx = some (11, 0, 0) ∧ st = vl x :: t ∧ wds t ≤ 8 ∧ C (pc + 3) ls (vl (abL x) :: t) M))
  | .invokespecial idx => len = 3 ∧ ((∃ y n as a t M1, pool (mcls k) idx = some (4, y, n) ∧ st = as.reverse ++ (vr a :: t) ∧ as.length = n ∧ mstat y = false ∧ ((mname y).name == "<init>") = true ∧ wds t ≤ 8 ∧ call y (vr a :: as) M none M1 ∧ C (pc + 3) ls t M1) ∨
      (∃ a t, pool (mcls k) idx = some (7, 0, 0) ∧ st = vr a :: t ∧ wds t ≤ 8 ∧ C (pc + 3) ls t M))
  | _ => False
/-- a method's end -/
def retI (k : Nat) (i : Instr) (len : Nat) (st : List MV) (r : Option MV) : Prop := match i with
  | .ireturn => len = 1 ∧ ∃ x, st = [vi x] ∧ r = some (vi x) ∧ (mret k = some .int ∨ (mret k = some .boolean ∧ (x = 0 ∨ x = 1)))
  | .lreturn => len = 1 ∧ ∃ x, st = [vl x] ∧ r = some (vl x) ∧ mret k = some .long
  | .return_ => len = 1 ∧ st = [] ∧ r = none ∧ mret k = none
  | _ => False
def Ex (call : Cl) (k : Nat) : Nat → Nat → List MV → List MV → MM → Option MV → MM → Prop
  | 0, _, _, _, _, _, _ => False
  | n + 1, pc, ls, st, M, r, M' => (M.1 ≤ M'.1 ∧ M.2.1 ≤ M'.2.1) ∧ ∃ (i : Instr) (len : Nat), decode (mcode k) pc = .ok (i, len) ∧ ((retI k i len st r ∧ M' = M) ∨ stepI call k i len pc ls st M (fun pc2 ls2 st2 M2 => Ex call k n pc2 ls2 st2 M2 r M'))
def Runs : Nat → Cl
  | 0, _, _, _, _, _ => False
  | d + 1, k, a, M, r, M' => (flt a).length ≤ mmaxl k ∧ ∃ n, Ex (Runs d) k n 0 (ent k a) [] M r M'
theorem Ex.mono {call : Cl} {k n pc : Nat} {ls st : List MV} {M M' : MM} {r : Option MV} (h : Ex call k n pc ls st M r M') : M.1 ≤ M'.1 ∧ M.2.1 ≤ M'.2.1 := by
  cases n with
  | zero => exact False.elim h
  | succ n => exact h.1
theorem Runs.mono {d k : Nat} {a : List MV} {M M' : MM} {r : Option MV} (h : Runs d k a M r M') : M.1 ≤ M'.1 ∧ M.2.1 ≤ M'.2.1 := by
  cases d with
  | zero => exact False.elim h
  | succ d => exact h.2.choose_spec.mono
/-- from here the method comes to an end with Q -/
def Wm (d k pc : Nat) (ls st : List MV) (M : MM) (Q : Option MV → MM → Prop) : Prop := ∃ n r M', Ex (Runs d) k n pc ls st M r M' ∧ Q r M'
/-- the method, called so, returns with Q -/
def Rm (d k : Nat) (a : List MV) (M : MM) (Q : Option MV → MM → Prop) : Prop := ∃ r M', Runs d k a M r M' ∧ Q r M'
theorem Wm.imp {d k pc : Nat} {ls st : List MV} {M : MM} {Q Q2 : Option MV → MM → Prop} (h : Wm d k pc ls st M Q) (hq : ∀ r M', Q r M' → Q2 r M') : Wm d k pc ls st M Q2 := by
  obtain ⟨n, r, M', h, q⟩ := h
  exact ⟨n, r, M', h, hq _ _ q⟩
theorem Rm.imp {d k : Nat} {a : List MV} {M : MM} {Q Q2 : Option MV → MM → Prop} (h : Rm d k a M Q) (hq : ∀ r M', Q r M' → Q2 r M') : Rm d k a M Q2 := by
  obtain ⟨r, M', h, q⟩ := h
  exact ⟨r, M', h, hq _ _ q⟩
theorem Rm.of {d k : Nat} {a : List MV} {M : MM} {Q : Option MV → MM → Prop} (ls : List MV) (hf : ((flt a).length ≤ mmaxl k) = True := by rfl) (he : ent k a = ls := by rfl) (h : Wm d k 0 ls [] M Q) : Rm (d + 1) k a M Q := by
  obtain ⟨n, r, M', h, q⟩ := h
  subst he
  exact ⟨r, M', ⟨of_eq_true hf, n, h⟩, q⟩
end
section
/-! the small machine, a row an instruction -/
theorem s_iconst {d k pc : Nat} {ls t : List MV} {s u : Nat} {K : Nat → Nat × Nat} {R : Nat → Nat → Option Nat} {I : Nat → Nat → Int} {Q : Option MV → MM → Prop} {n : Int} (hd : decode (mcode k) pc = .ok (.iconst n, 1)) (hn : inI n) (kk : Wm d k (pc + 1) (ls) (vi n :: t) (s, u, K, R, I) Q) : Wm d k pc ls (t) (s, u, K, R, I) Q := by
  obtain ⟨n9, r, M', h, q⟩ := kk
  exact ⟨n9 + 1, r, M', ⟨h.mono, _, _, hd, Or.inr ⟨rfl, hn, h⟩⟩, q⟩
theorem s_bipush {d k pc : Nat} {ls t : List MV} {s u : Nat} {K : Nat → Nat × Nat} {R : Nat → Nat → Option Nat} {I : Nat → Nat → Int} {Q : Option MV → MM → Prop} {n : Int} (hd : decode (mcode k) pc = .ok (.bipush n, 2)) (hn : inI n) (h8 : (Int8.ofInt n).toInt32 = Int32.ofInt n) (kk : Wm d k (pc + 2) (ls) (vi n :: t) (s, u, K, R, I) Q) : Wm d k pc ls (t) (s, u, K, R, I) Q := by
  obtain ⟨n9, r, M', h, q⟩ := kk
  exact ⟨n9 + 1, r, M', ⟨h.mono, _, _, hd, Or.inr ⟨rfl, hn, h8, h⟩⟩, q⟩
theorem s_sipush {d k pc : Nat} {ls t : List MV} {s u : Nat} {K : Nat → Nat × Nat} {R : Nat → Nat → Option Nat} {I : Nat → Nat → Int} {Q : Option MV → MM → Prop} {n : Int} (hd : decode (mcode k) pc = .ok (.sipush n, 3)) (hn : inI n) (h8 : (Int16.ofInt n).toInt32 = Int32.ofInt n) (kk : Wm d k (pc + 3) (ls) (vi n :: t) (s, u, K, R, I) Q) : Wm d k pc ls (t) (s, u, K, R, I) Q := by
  obtain ⟨n9, r, M', h, q⟩ := kk
  exact ⟨n9 + 1, r, M', ⟨h.mono, _, _, hd, Or.inr ⟨rfl, hn, h8, h⟩⟩, q⟩
theorem s_lconst {d k pc : Nat} {ls t : List MV} {s u : Nat} {K : Nat → Nat × Nat} {R : Nat → Nat → Option Nat} {I : Nat → Nat → Int} {Q : Option MV → MM → Prop} {n : Fin 2} {x : Int} (hd : decode (mcode k) pc = .ok (.lconst n, 1)) (hx : ((n : Nat) : Int) = x) (kk : Wm d k (pc + 1) (ls) (vl x :: t) (s, u, K, R, I) Q) : Wm d k pc ls (t) (s, u, K, R, I) Q := by
  obtain ⟨n9, r, M', h, q⟩ := kk
  exact ⟨n9 + 1, r, M', ⟨h.mono, _, _, hd, Or.inr ⟨rfl, hx ▸ h⟩⟩, q⟩
theorem s_ldc {d k pc : Nat} {ls t : List MV} {s u : Nat} {K : Nat → Nat × Nat} {R : Nat → Nat → Option Nat} {I : Nat → Nat → Int} {Q : Option MV → MM → Prop} {idx : Nat} {x : Int} (hd : decode (mcode k) pc = .ok (.ldc idx, 2)) (hc : cst (mcls k) idx = some x) (hn : inI x) (kk : Wm d k (pc + 2) (ls) (vi x :: t) (s, u, K, R, I) Q) : Wm d k pc ls (t) (s, u, K, R, I) Q := by
  obtain ⟨n9, r, M', h, q⟩ := kk
  exact ⟨n9 + 1, r, M', ⟨h.mono, _, _, hd, Or.inr ⟨rfl, x, hc, hn, h⟩⟩, q⟩
theorem s_ldcw {d k pc : Nat} {ls t : List MV} {s u : Nat} {K : Nat → Nat × Nat} {R : Nat → Nat → Option Nat} {I : Nat → Nat → Int} {Q : Option MV → MM → Prop} {idx : Nat} {x : Int} (hd : decode (mcode k) pc = .ok (.ldc_w idx, 3)) (hc : cst (mcls k) idx = some x) (hn : inI x) (kk : Wm d k (pc + 3) (ls) (vi x :: t) (s, u, K, R, I) Q) : Wm d k pc ls (t) (s, u, K, R, I) Q := by
  obtain ⟨n9, r, M', h, q⟩ := kk
  exact ⟨n9 + 1, r, M', ⟨h.mono, _, _, hd, Or.inr ⟨rfl, x, hc, hn, h⟩⟩, q⟩
theorem s_ldc2 {d k pc : Nat} {ls t : List MV} {s u : Nat} {K : Nat → Nat × Nat} {R : Nat → Nat → Option Nat} {I : Nat → Nat → Int} {Q : Option MV → MM → Prop} {idx : Nat} {x : Int} (hd : decode (mcode k) pc = .ok (.ldc2_w idx, 3)) (hc : csl (mcls k) idx = some x) (hn : inL x) (kk : Wm d k (pc + 3) (ls) (vl x :: t) (s, u, K, R, I) Q) : Wm d k pc ls (t) (s, u, K, R, I) Q := by
  obtain ⟨n9, r, M', h, q⟩ := kk
  exact ⟨n9 + 1, r, M', ⟨h.mono, _, _, hd, Or.inr ⟨rfl, x, hc, hn, h⟩⟩, q⟩
theorem s_iload {d k pc : Nat} {ls t : List MV} {s u : Nat} {K : Nat → Nat × Nat} {R : Nat → Nat → Option Nat} {I : Nat → Nat → Int} {Q : Option MV → MM → Prop} {i : Nat} {x : Int} (hd : decode (mcode k) pc = .ok (.iload i, 2)) (hl : ls[i]? = some (vi x)) (kk : Wm d k (pc + 2) (ls) (vi x :: t) (s, u, K, R, I) Q) : Wm d k pc ls (t) (s, u, K, R, I) Q := by
  obtain ⟨n9, r, M', h, q⟩ := kk
  exact ⟨n9 + 1, r, M', ⟨h.mono, _, _, hd, Or.inr ⟨rfl, x, hl, h⟩⟩, q⟩
theorem s_iload_n {d k pc : Nat} {ls t : List MV} {s u : Nat} {K : Nat → Nat × Nat} {R : Nat → Nat → Option Nat} {I : Nat → Nat → Int} {Q : Option MV → MM → Prop} {i : Fin 4} {x : Int} (hd : decode (mcode k) pc = .ok (.iload_n i, 1)) (hl : ls[(i : Nat)]? = some (vi x)) (kk : Wm d k (pc + 1) (ls) (vi x :: t) (s, u, K, R, I) Q) : Wm d k pc ls (t) (s, u, K, R, I) Q := by
  obtain ⟨n9, r, M', h, q⟩ := kk
  exact ⟨n9 + 1, r, M', ⟨h.mono, _, _, hd, Or.inr ⟨rfl, x, hl, h⟩⟩, q⟩
theorem s_lload {d k pc : Nat} {ls t : List MV} {s u : Nat} {K : Nat → Nat × Nat} {R : Nat → Nat → Option Nat} {I : Nat → Nat → Int} {Q : Option MV → MM → Prop} {i : Nat} {x : Int} (hd : decode (mcode k) pc = .ok (.lload i, 2)) (hl : ls[i]? = some (vl x)) (kk : Wm d k (pc + 2) (ls) (vl x :: t) (s, u, K, R, I) Q) : Wm d k pc ls (t) (s, u, K, R, I) Q := by
  obtain ⟨n9, r, M', h, q⟩ := kk
  exact ⟨n9 + 1, r, M', ⟨h.mono, _, _, hd, Or.inr ⟨rfl, x, hl, h⟩⟩, q⟩
theorem s_lload_n {d k pc : Nat} {ls t : List MV} {s u : Nat} {K : Nat → Nat × Nat} {R : Nat → Nat → Option Nat} {I : Nat → Nat → Int} {Q : Option MV → MM → Prop} {i : Fin 4} {x : Int} (hd : decode (mcode k) pc = .ok (.lload_n i, 1)) (hl : ls[(i : Nat)]? = some (vl x)) (kk : Wm d k (pc + 1) (ls) (vl x :: t) (s, u, K, R, I) Q) : Wm d k pc ls (t) (s, u, K, R, I) Q := by
  obtain ⟨n9, r, M', h, q⟩ := kk
  exact ⟨n9 + 1, r, M', ⟨h.mono, _, _, hd, Or.inr ⟨rfl, x, hl, h⟩⟩, q⟩
theorem s_aload {d k pc : Nat} {ls t : List MV} {s u : Nat} {K : Nat → Nat × Nat} {R : Nat → Nat → Option Nat} {I : Nat → Nat → Int} {Q : Option MV → MM → Prop} {i : Nat} {x : Nat} (hd : decode (mcode k) pc = .ok (.aload i, 2)) (hl : ls[i]? = some (vr x)) (kk : Wm d k (pc + 2) (ls) (vr x :: t) (s, u, K, R, I) Q) : Wm d k pc ls (t) (s, u, K, R, I) Q := by
  obtain ⟨n9, r, M', h, q⟩ := kk
  exact ⟨n9 + 1, r, M', ⟨h.mono, _, _, hd, Or.inr ⟨rfl, x, hl, h⟩⟩, q⟩
theorem s_aload_n {d k pc : Nat} {ls t : List MV} {s u : Nat} {K : Nat → Nat × Nat} {R : Nat → Nat → Option Nat} {I : Nat → Nat → Int} {Q : Option MV → MM → Prop} {i : Fin 4} {x : Nat} (hd : decode (mcode k) pc = .ok (.aload_n i, 1)) (hl : ls[(i : Nat)]? = some (vr x)) (kk : Wm d k (pc + 1) (ls) (vr x :: t) (s, u, K, R, I) Q) : Wm d k pc ls (t) (s, u, K, R, I) Q := by
  obtain ⟨n9, r, M', h, q⟩ := kk
  exact ⟨n9 + 1, r, M', ⟨h.mono, _, _, hd, Or.inr ⟨rfl, x, hl, h⟩⟩, q⟩
theorem s_istore {d k pc : Nat} {ls t : List MV} {s u : Nat} {K : Nat → Nat × Nat} {R : Nat → Nat → Option Nat} {I : Nat → Nat → Int} {Q : Option MV → MM → Prop} {i : Nat} {x : Int} {ls2 : List MV} (hd : decode (mcode k) pc = .ok (.istore i, 2)) (hi : i < ls.length) (hl : st1 ls i (vi x) = ls2) (kk : Wm d k (pc + 2) (ls2) (t) (s, u, K, R, I) Q) : Wm d k pc ls (vi x :: t) (s, u, K, R, I) Q := by
  obtain ⟨n9, r, M', h, q⟩ := kk
  exact ⟨n9 + 1, r, M', ⟨h.mono, _, _, hd, Or.inr ⟨rfl, x, t, rfl, hi, hl ▸ h⟩⟩, q⟩
theorem s_istore_n {d k pc : Nat} {ls t : List MV} {s u : Nat} {K : Nat → Nat × Nat} {R : Nat → Nat → Option Nat} {I : Nat → Nat → Int} {Q : Option MV → MM → Prop} {i : Fin 4} {x : Int} {ls2 : List MV} (hd : decode (mcode k) pc = .ok (.istore_n i, 1)) (hi : (i : Nat) < ls.length) (hl : st1 ls i (vi x) = ls2) (kk : Wm d k (pc + 1) (ls2) (t) (s, u, K, R, I) Q) : Wm d k pc ls (vi x :: t) (s, u, K, R, I) Q := by
  obtain ⟨n9, r, M', h, q⟩ := kk
  exact ⟨n9 + 1, r, M', ⟨h.mono, _, _, hd, Or.inr ⟨rfl, x, t, rfl, hi, hl ▸ h⟩⟩, q⟩
theorem s_astore {d k pc : Nat} {ls t : List MV} {s u : Nat} {K : Nat → Nat × Nat} {R : Nat → Nat → Option Nat} {I : Nat → Nat → Int} {Q : Option MV → MM → Prop} {i : Nat} {x : Nat} {ls2 : List MV} (hd : decode (mcode k) pc = .ok (.astore i, 2)) (hi : i < ls.length) (hl : st1 ls i (vr x) = ls2) (kk : Wm d k (pc + 2) (ls2) (t) (s, u, K, R, I) Q) : Wm d k pc ls (vr x :: t) (s, u, K, R, I) Q := by
  obtain ⟨n9, r, M', h, q⟩ := kk
  exact ⟨n9 + 1, r, M', ⟨h.mono, _, _, hd, Or.inr ⟨rfl, x, t, rfl, hi, hl ▸ h⟩⟩, q⟩
theorem s_astore_n {d k pc : Nat} {ls t : List MV} {s u : Nat} {K : Nat → Nat × Nat} {R : Nat → Nat → Option Nat} {I : Nat → Nat → Int} {Q : Option MV → MM → Prop} {i : Fin 4} {x : Nat} {ls2 : List MV} (hd : decode (mcode k) pc = .ok (.astore_n i, 1)) (hi : (i : Nat) < ls.length) (hl : st1 ls i (vr x) = ls2) (kk : Wm d k (pc + 1) (ls2) (t) (s, u, K, R, I) Q) : Wm d k pc ls (vr x :: t) (s, u, K, R, I) Q := by
  obtain ⟨n9, r, M', h, q⟩ := kk
  exact ⟨n9 + 1, r, M', ⟨h.mono, _, _, hd, Or.inr ⟨rfl, x, t, rfl, hi, hl ▸ h⟩⟩, q⟩
theorem s_lstore {d k pc : Nat} {ls t : List MV} {s u : Nat} {K : Nat → Nat × Nat} {R : Nat → Nat → Option Nat} {I : Nat → Nat → Int} {Q : Option MV → MM → Prop} {i : Nat} {x : Int} {ls2 : List MV} (hd : decode (mcode k) pc = .ok (.lstore i, 2)) (hi : i + 1 < ls.length) (hl : st2 ls i (vl x) = ls2) (kk : Wm d k (pc + 2) (ls2) (t) (s, u, K, R, I) Q) : Wm d k pc ls (vl x :: t) (s, u, K, R, I) Q := by
  obtain ⟨n9, r, M', h, q⟩ := kk
  exact ⟨n9 + 1, r, M', ⟨h.mono, _, _, hd, Or.inr ⟨rfl, x, t, rfl, hi, hl ▸ h⟩⟩, q⟩
theorem s_lstore_n {d k pc : Nat} {ls t : List MV} {s u : Nat} {K : Nat → Nat × Nat} {R : Nat → Nat → Option Nat} {I : Nat → Nat → Int} {Q : Option MV → MM → Prop} {i : Fin 4} {x : Int} {ls2 : List MV} (hd : decode (mcode k) pc = .ok (.lstore_n i, 1)) (hi : (i : Nat) + 1 < ls.length) (hl : st2 ls i (vl x) = ls2) (kk : Wm d k (pc + 1) (ls2) (t) (s, u, K, R, I) Q) : Wm d k pc ls (vl x :: t) (s, u, K, R, I) Q := by
  obtain ⟨n9, r, M', h, q⟩ := kk
  exact ⟨n9 + 1, r, M', ⟨h.mono, _, _, hd, Or.inr ⟨rfl, x, t, rfl, hi, hl ▸ h⟩⟩, q⟩
theorem s_iinc {d k pc : Nat} {ls t : List MV} {s u : Nat} {K : Nat → Nat × Nat} {R : Nat → Nat → Option Nat} {I : Nat → Nat → Int} {Q : Option MV → MM → Prop} {i : Nat} {n x : Int} {ls2 : List MV} (hd : decode (mcode k) pc = .ok (.iinc i n, 3)) (hx : ls[i]? = some (vi x)) (hl : st1 ls i (vi (wI (x + n))) = ls2) (kk : Wm d k (pc + 3) (ls2) (t) (s, u, K, R, I) Q) : Wm d k pc ls (t) (s, u, K, R, I) Q := by
  obtain ⟨n9, r, M', h, q⟩ := kk
  exact ⟨n9 + 1, r, M', ⟨h.mono, _, _, hd, Or.inr ⟨rfl, x, hx, hl ▸ h⟩⟩, q⟩
theorem s_iadd {d k pc : Nat} {ls t : List MV} {s u : Nat} {K : Nat → Nat × Nat} {R : Nat → Nat → Option Nat} {I : Nat → Nat → Int} {Q : Option MV → MM → Prop} {x y : Int} (hd : decode (mcode k) pc = .ok (.iadd, 1))  (kk : Wm d k (pc + 1) (ls) (vi (wI (x + y)) :: t) (s, u, K, R, I) Q) : Wm d k pc ls (vi y :: vi x :: t) (s, u, K, R, I) Q := by
  obtain ⟨n9, r, M', h, q⟩ := kk
  exact ⟨n9 + 1, r, M', ⟨h.mono, _, _, hd, Or.inr ⟨rfl, x, y, t, rfl, h⟩⟩, q⟩
theorem s_isub {d k pc : Nat} {ls t : List MV} {s u : Nat} {K : Nat → Nat × Nat} {R : Nat → Nat → Option Nat} {I : Nat → Nat → Int} {Q : Option MV → MM → Prop} {x y : Int} (hd : decode (mcode k) pc = .ok (.isub, 1))  (kk : Wm d k (pc + 1) (ls) (vi (wI (x - y)) :: t) (s, u, K, R, I) Q) : Wm d k pc ls (vi y :: vi x :: t) (s, u, K, R, I) Q := by
  obtain ⟨n9, r, M', h, q⟩ := kk
  exact ⟨n9 + 1, r, M', ⟨h.mono, _, _, hd, Or.inr ⟨rfl, x, y, t, rfl, h⟩⟩, q⟩
theorem s_imul {d k pc : Nat} {ls t : List MV} {s u : Nat} {K : Nat → Nat × Nat} {R : Nat → Nat → Option Nat} {I : Nat → Nat → Int} {Q : Option MV → MM → Prop} {x y : Int} (hd : decode (mcode k) pc = .ok (.imul, 1))  (kk : Wm d k (pc + 1) (ls) (vi (wI (x * y)) :: t) (s, u, K, R, I) Q) : Wm d k pc ls (vi y :: vi x :: t) (s, u, K, R, I) Q := by
  obtain ⟨n9, r, M', h, q⟩ := kk
  exact ⟨n9 + 1, r, M', ⟨h.mono, _, _, hd, Or.inr ⟨rfl, x, y, t, rfl, h⟩⟩, q⟩
theorem s_iand {d k pc : Nat} {ls t : List MV} {s u : Nat} {K : Nat → Nat × Nat} {R : Nat → Nat → Option Nat} {I : Nat → Nat → Int} {Q : Option MV → MM → Prop} {x y : Int} (hd : decode (mcode k) pc = .ok (.iand, 1))  (kk : Wm d k (pc + 1) (ls) (vi (aNd x y) :: t) (s, u, K, R, I) Q) : Wm d k pc ls (vi y :: vi x :: t) (s, u, K, R, I) Q := by
  obtain ⟨n9, r, M', h, q⟩ := kk
  exact ⟨n9 + 1, r, M', ⟨h.mono, _, _, hd, Or.inr ⟨rfl, x, y, t, rfl, h⟩⟩, q⟩
theorem s_ixor {d k pc : Nat} {ls t : List MV} {s u : Nat} {K : Nat → Nat × Nat} {R : Nat → Nat → Option Nat} {I : Nat → Nat → Int} {Q : Option MV → MM → Prop} {x y : Int} (hd : decode (mcode k) pc = .ok (.ixor, 1))  (kk : Wm d k (pc + 1) (ls) (vi (xOr x y) :: t) (s, u, K, R, I) Q) : Wm d k pc ls (vi y :: vi x :: t) (s, u, K, R, I) Q := by
  obtain ⟨n9, r, M', h, q⟩ := kk
  exact ⟨n9 + 1, r, M', ⟨h.mono, _, _, hd, Or.inr ⟨rfl, x, y, t, rfl, h⟩⟩, q⟩
theorem s_ishl {d k pc : Nat} {ls t : List MV} {s u : Nat} {K : Nat → Nat × Nat} {R : Nat → Nat → Option Nat} {I : Nat → Nat → Int} {Q : Option MV → MM → Prop} {x y : Int} (hd : decode (mcode k) pc = .ok (.ishl, 1))  (kk : Wm d k (pc + 1) (ls) (vi (sHl x y) :: t) (s, u, K, R, I) Q) : Wm d k pc ls (vi y :: vi x :: t) (s, u, K, R, I) Q := by
  obtain ⟨n9, r, M', h, q⟩ := kk
  exact ⟨n9 + 1, r, M', ⟨h.mono, _, _, hd, Or.inr ⟨rfl, x, y, t, rfl, h⟩⟩, q⟩
theorem s_ishr {d k pc : Nat} {ls t : List MV} {s u : Nat} {K : Nat → Nat × Nat} {R : Nat → Nat → Option Nat} {I : Nat → Nat → Int} {Q : Option MV → MM → Prop} {x y : Int} (hd : decode (mcode k) pc = .ok (.ishr, 1))  (kk : Wm d k (pc + 1) (ls) (vi (sHr x y) :: t) (s, u, K, R, I) Q) : Wm d k pc ls (vi y :: vi x :: t) (s, u, K, R, I) Q := by
  obtain ⟨n9, r, M', h, q⟩ := kk
  exact ⟨n9 + 1, r, M', ⟨h.mono, _, _, hd, Or.inr ⟨rfl, x, y, t, rfl, h⟩⟩, q⟩
theorem s_iushr {d k pc : Nat} {ls t : List MV} {s u : Nat} {K : Nat → Nat × Nat} {R : Nat → Nat → Option Nat} {I : Nat → Nat → Int} {Q : Option MV → MM → Prop} {x y : Int} (hd : decode (mcode k) pc = .ok (.iushr, 1))  (kk : Wm d k (pc + 1) (ls) (vi (sUr x y) :: t) (s, u, K, R, I) Q) : Wm d k pc ls (vi y :: vi x :: t) (s, u, K, R, I) Q := by
  obtain ⟨n9, r, M', h, q⟩ := kk
  exact ⟨n9 + 1, r, M', ⟨h.mono, _, _, hd, Or.inr ⟨rfl, x, y, t, rfl, h⟩⟩, q⟩
theorem s_idiv {d k pc : Nat} {ls t : List MV} {s u : Nat} {K : Nat → Nat × Nat} {R : Nat → Nat → Option Nat} {I : Nat → Nat → Int} {Q : Option MV → MM → Prop} {x y : Int} (hd : decode (mcode k) pc = .ok (.idiv, 1)) (hy : y ≠ 0) (kk : Wm d k (pc + 1) (ls) (vi (wI (x.tdiv y)) :: t) (s, u, K, R, I) Q) : Wm d k pc ls (vi y :: vi x :: t) (s, u, K, R, I) Q := by
  obtain ⟨n9, r, M', h, q⟩ := kk
  exact ⟨n9 + 1, r, M', ⟨h.mono, _, _, hd, Or.inr ⟨rfl, x, y, t, rfl, hy, h⟩⟩, q⟩
theorem s_irem {d k pc : Nat} {ls t : List MV} {s u : Nat} {K : Nat → Nat × Nat} {R : Nat → Nat → Option Nat} {I : Nat → Nat → Int} {Q : Option MV → MM → Prop} {x y : Int} (hd : decode (mcode k) pc = .ok (.irem, 1)) (hy : y ≠ 0) (kk : Wm d k (pc + 1) (ls) (vi (x.tmod y) :: t) (s, u, K, R, I) Q) : Wm d k pc ls (vi y :: vi x :: t) (s, u, K, R, I) Q := by
  obtain ⟨n9, r, M', h, q⟩ := kk
  exact ⟨n9 + 1, r, M', ⟨h.mono, _, _, hd, Or.inr ⟨rfl, x, y, t, rfl, hy, h⟩⟩, q⟩
theorem s_ladd {d k pc : Nat} {ls t : List MV} {s u : Nat} {K : Nat → Nat × Nat} {R : Nat → Nat → Option Nat} {I : Nat → Nat → Int} {Q : Option MV → MM → Prop} {x y : Int} (hd : decode (mcode k) pc = .ok (.ladd, 1))  (kk : Wm d k (pc + 1) (ls) (vl (wL (x + y)) :: t) (s, u, K, R, I) Q) : Wm d k pc ls (vl y :: vl x :: t) (s, u, K, R, I) Q := by
  obtain ⟨n9, r, M', h, q⟩ := kk
  exact ⟨n9 + 1, r, M', ⟨h.mono, _, _, hd, Or.inr ⟨rfl, x, y, t, rfl, h⟩⟩, q⟩
theorem s_lsub {d k pc : Nat} {ls t : List MV} {s u : Nat} {K : Nat → Nat × Nat} {R : Nat → Nat → Option Nat} {I : Nat → Nat → Int} {Q : Option MV → MM → Prop} {x y : Int} (hd : decode (mcode k) pc = .ok (.lsub, 1))  (kk : Wm d k (pc + 1) (ls) (vl (wL (x - y)) :: t) (s, u, K, R, I) Q) : Wm d k pc ls (vl y :: vl x :: t) (s, u, K, R, I) Q := by
  obtain ⟨n9, r, M', h, q⟩ := kk
  exact ⟨n9 + 1, r, M', ⟨h.mono, _, _, hd, Or.inr ⟨rfl, x, y, t, rfl, h⟩⟩, q⟩
theorem s_lmul {d k pc : Nat} {ls t : List MV} {s u : Nat} {K : Nat → Nat × Nat} {R : Nat → Nat → Option Nat} {I : Nat → Nat → Int} {Q : Option MV → MM → Prop} {x y : Int} (hd : decode (mcode k) pc = .ok (.lmul, 1))  (kk : Wm d k (pc + 1) (ls) (vl (wL (x * y)) :: t) (s, u, K, R, I) Q) : Wm d k pc ls (vl y :: vl x :: t) (s, u, K, R, I) Q := by
  obtain ⟨n9, r, M', h, q⟩ := kk
  exact ⟨n9 + 1, r, M', ⟨h.mono, _, _, hd, Or.inr ⟨rfl, x, y, t, rfl, h⟩⟩, q⟩
theorem s_land {d k pc : Nat} {ls t : List MV} {s u : Nat} {K : Nat → Nat × Nat} {R : Nat → Nat → Option Nat} {I : Nat → Nat → Int} {Q : Option MV → MM → Prop} {x y : Int} (hd : decode (mcode k) pc = .ok (.land, 1))  (kk : Wm d k (pc + 1) (ls) (vl (lAnd x y) :: t) (s, u, K, R, I) Q) : Wm d k pc ls (vl y :: vl x :: t) (s, u, K, R, I) Q := by
  obtain ⟨n9, r, M', h, q⟩ := kk
  exact ⟨n9 + 1, r, M', ⟨h.mono, _, _, hd, Or.inr ⟨rfl, x, y, t, rfl, h⟩⟩, q⟩
theorem s_lor {d k pc : Nat} {ls t : List MV} {s u : Nat} {K : Nat → Nat × Nat} {R : Nat → Nat → Option Nat} {I : Nat → Nat → Int} {Q : Option MV → MM → Prop} {x y : Int} (hd : decode (mcode k) pc = .ok (.lor, 1))  (kk : Wm d k (pc + 1) (ls) (vl (lOr x y) :: t) (s, u, K, R, I) Q) : Wm d k pc ls (vl y :: vl x :: t) (s, u, K, R, I) Q := by
  obtain ⟨n9, r, M', h, q⟩ := kk
  exact ⟨n9 + 1, r, M', ⟨h.mono, _, _, hd, Or.inr ⟨rfl, x, y, t, rfl, h⟩⟩, q⟩
theorem s_ldiv {d k pc : Nat} {ls t : List MV} {s u : Nat} {K : Nat → Nat × Nat} {R : Nat → Nat → Option Nat} {I : Nat → Nat → Int} {Q : Option MV → MM → Prop} {x y : Int} (hd : decode (mcode k) pc = .ok (.ldiv, 1)) (hy : y ≠ 0) (kk : Wm d k (pc + 1) (ls) (vl (wL (x.tdiv y)) :: t) (s, u, K, R, I) Q) : Wm d k pc ls (vl y :: vl x :: t) (s, u, K, R, I) Q := by
  obtain ⟨n9, r, M', h, q⟩ := kk
  exact ⟨n9 + 1, r, M', ⟨h.mono, _, _, hd, Or.inr ⟨rfl, x, y, t, rfl, hy, h⟩⟩, q⟩
theorem s_lrem {d k pc : Nat} {ls t : List MV} {s u : Nat} {K : Nat → Nat × Nat} {R : Nat → Nat → Option Nat} {I : Nat → Nat → Int} {Q : Option MV → MM → Prop} {x y : Int} (hd : decode (mcode k) pc = .ok (.lrem, 1)) (hy : y ≠ 0) (kk : Wm d k (pc + 1) (ls) (vl (x.tmod y) :: t) (s, u, K, R, I) Q) : Wm d k pc ls (vl y :: vl x :: t) (s, u, K, R, I) Q := by
  obtain ⟨n9, r, M', h, q⟩ := kk
  exact ⟨n9 + 1, r, M', ⟨h.mono, _, _, hd, Or.inr ⟨rfl, x, y, t, rfl, hy, h⟩⟩, q⟩
theorem s_lshl {d k pc : Nat} {ls t : List MV} {s u : Nat} {K : Nat → Nat × Nat} {R : Nat → Nat → Option Nat} {I : Nat → Nat → Int} {Q : Option MV → MM → Prop} {x y : Int} (hd : decode (mcode k) pc = .ok (.lshl, 1))  (kk : Wm d k (pc + 1) (ls) (vl (lShl x y) :: t) (s, u, K, R, I) Q) : Wm d k pc ls (vi y :: vl x :: t) (s, u, K, R, I) Q := by
  obtain ⟨n9, r, M', h, q⟩ := kk
  exact ⟨n9 + 1, r, M', ⟨h.mono, _, _, hd, Or.inr ⟨rfl, x, y, t, rfl, h⟩⟩, q⟩
theorem s_lcmp {d k pc : Nat} {ls t : List MV} {s u : Nat} {K : Nat → Nat × Nat} {R : Nat → Nat → Option Nat} {I : Nat → Nat → Int} {Q : Option MV → MM → Prop} {x y : Int} (hd : decode (mcode k) pc = .ok (.lcmp, 1))  (kk : Wm d k (pc + 1) (ls) (vi (lCm x y) :: t) (s, u, K, R, I) Q) : Wm d k pc ls (vl y :: vl x :: t) (s, u, K, R, I) Q := by
  obtain ⟨n9, r, M', h, q⟩ := kk
  exact ⟨n9 + 1, r, M', ⟨h.mono, _, _, hd, Or.inr ⟨rfl, x, y, t, rfl, h⟩⟩, q⟩
theorem s_ineg {d k pc : Nat} {ls t : List MV} {s u : Nat} {K : Nat → Nat × Nat} {R : Nat → Nat → Option Nat} {I : Nat → Nat → Int} {Q : Option MV → MM → Prop} {x : Int} (hd : decode (mcode k) pc = .ok (.ineg, 1))  (kk : Wm d k (pc + 1) (ls) (vi (wI (-x)) :: t) (s, u, K, R, I) Q) : Wm d k pc ls (vi x :: t) (s, u, K, R, I) Q := by
  obtain ⟨n9, r, M', h, q⟩ := kk
  exact ⟨n9 + 1, r, M', ⟨h.mono, _, _, hd, Or.inr ⟨rfl, x, t, rfl, h⟩⟩, q⟩
theorem s_lneg {d k pc : Nat} {ls t : List MV} {s u : Nat} {K : Nat → Nat × Nat} {R : Nat → Nat → Option Nat} {I : Nat → Nat → Int} {Q : Option MV → MM → Prop} {x : Int} (hd : decode (mcode k) pc = .ok (.lneg, 1))  (kk : Wm d k (pc + 1) (ls) (vl (wL (-x)) :: t) (s, u, K, R, I) Q) : Wm d k pc ls (vl x :: t) (s, u, K, R, I) Q := by
  obtain ⟨n9, r, M', h, q⟩ := kk
  exact ⟨n9 + 1, r, M', ⟨h.mono, _, _, hd, Or.inr ⟨rfl, x, t, rfl, h⟩⟩, q⟩
theorem s_i2l {d k pc : Nat} {ls t : List MV} {s u : Nat} {K : Nat → Nat × Nat} {R : Nat → Nat → Option Nat} {I : Nat → Nat → Int} {Q : Option MV → MM → Prop} {x : Int} (hd : decode (mcode k) pc = .ok (.i2l, 1))  (kk : Wm d k (pc + 1) (ls) (vl x :: t) (s, u, K, R, I) Q) : Wm d k pc ls (vi x :: t) (s, u, K, R, I) Q := by
  obtain ⟨n9, r, M', h, q⟩ := kk
  exact ⟨n9 + 1, r, M', ⟨h.mono, _, _, hd, Or.inr ⟨rfl, x, t, rfl, h⟩⟩, q⟩
theorem s_l2i {d k pc : Nat} {ls t : List MV} {s u : Nat} {K : Nat → Nat × Nat} {R : Nat → Nat → Option Nat} {I : Nat → Nat → Int} {Q : Option MV → MM → Prop} {x : Int} (hd : decode (mcode k) pc = .ok (.l2i, 1))  (kk : Wm d k (pc + 1) (ls) (vi (wI x) :: t) (s, u, K, R, I) Q) : Wm d k pc ls (vl x :: t) (s, u, K, R, I) Q := by
  obtain ⟨n9, r, M', h, q⟩ := kk
  exact ⟨n9 + 1, r, M', ⟨h.mono, _, _, hd, Or.inr ⟨rfl, x, t, rfl, h⟩⟩, q⟩
theorem s_dup {d k pc : Nat} {ls t : List MV} {s u : Nat} {K : Nat → Nat × Nat} {R : Nat → Nat → Option Nat} {I : Nat → Nat → Int} {Q : Option MV → MM → Prop} {v : MV} (hd : decode (mcode k) pc = .ok (.dup, 1)) (hw : wd v = 1) (kk : Wm d k (pc + 1) (ls) (v :: v :: t) (s, u, K, R, I) Q) : Wm d k pc ls (v :: t) (s, u, K, R, I) Q := by
  obtain ⟨n9, r, M', h, q⟩ := kk
  exact ⟨n9 + 1, r, M', ⟨h.mono, _, _, hd, Or.inr ⟨rfl, v, t, rfl, hw, h⟩⟩, q⟩
theorem s_dup2 {d k pc : Nat} {ls t : List MV} {s u : Nat} {K : Nat → Nat × Nat} {R : Nat → Nat → Option Nat} {I : Nat → Nat → Int} {Q : Option MV → MM → Prop} {v w : MV} (hd : decode (mcode k) pc = .ok (.dup2, 1)) (hw : wd v = 1) (hw2 : wd w = 1) (kk : Wm d k (pc + 1) (ls) (v :: w :: v :: w :: t) (s, u, K, R, I) Q) : Wm d k pc ls (v :: w :: t) (s, u, K, R, I) Q := by
  obtain ⟨n9, r, M', h, q⟩ := kk
  exact ⟨n9 + 1, r, M', ⟨h.mono, _, _, hd, Or.inr ⟨rfl, v, w, t, rfl, hw, hw2, h⟩⟩, q⟩
theorem s_pop {d k pc : Nat} {ls t : List MV} {s u : Nat} {K : Nat → Nat × Nat} {R : Nat → Nat → Option Nat} {I : Nat → Nat → Int} {Q : Option MV → MM → Prop} {v : MV} (hd : decode (mcode k) pc = .ok (.pop, 1)) (hw : wd v = 1) (kk : Wm d k (pc + 1) (ls) (t) (s, u, K, R, I) Q) : Wm d k pc ls (v :: t) (s, u, K, R, I) Q := by
  obtain ⟨n9, r, M', h, q⟩ := kk
  exact ⟨n9 + 1, r, M', ⟨h.mono, _, _, hd, Or.inr ⟨rfl, v, t, rfl, hw, h⟩⟩, q⟩
theorem s_goto {d k pc : Nat} {ls t : List MV} {s u : Nat} {K : Nat → Nat × Nat} {R : Nat → Nat → Option Nat} {I : Nat → Nat → Int} {Q : Option MV → MM → Prop} {off : Int} (tgt : Nat) (hd : decode (mcode k) pc = .ok (.goto off, 3)) (ht : (pc : Int) + off = (tgt : Int)) (kk : Wm d k (tgt) (ls) (t) (s, u, K, R, I) Q) : Wm d k pc ls (t) (s, u, K, R, I) Q := by
  obtain ⟨n9, r, M', h, q⟩ := kk
  exact ⟨n9 + 1, r, M', ⟨h.mono, _, _, hd, Or.inr ⟨rfl, tgt, ht, h⟩⟩, q⟩
theorem s_icmp_eq {d k pc : Nat} {ls t : List MV} {s u : Nat} {K : Nat → Nat × Nat} {R : Nat → Nat → Option Nat} {I : Nat → Nat → Int} {Q : Option MV → MM → Prop} {off : Int} {x y : Int} (tgt : Nat) (hd : decode (mcode k) pc = .ok (.if_icmp .eq off, 3)) (ht : (pc : Int) + off = (tgt : Int)) (kt : x = y → Wm d k tgt ls t (s, u, K, R, I) Q) (kf : x ≠ y → Wm d k (pc + 3) ls t (s, u, K, R, I) Q) : Wm d k pc ls (vi y :: vi x :: t) (s, u, K, R, I) Q := by
  by_cases hc : x = y
  · obtain ⟨n, r, M', h, q⟩ := kt (hc)
    exact ⟨n + 1, r, M', ⟨h.mono, _, _, hd, Or.inr ⟨rfl, x, y, t, rfl, tgt, ht, fun _ => h, fun h2 => absurd hc h2⟩⟩, q⟩
  · obtain ⟨n, r, M', h, q⟩ := kf (hc)
    exact ⟨n + 1, r, M', ⟨h.mono, _, _, hd, Or.inr ⟨rfl, x, y, t, rfl, tgt, ht, fun h2 => absurd h2 hc, fun _ => h⟩⟩, q⟩
theorem s_if_eq {d k pc : Nat} {ls t : List MV} {s u : Nat} {K : Nat → Nat × Nat} {R : Nat → Nat → Option Nat} {I : Nat → Nat → Int} {Q : Option MV → MM → Prop} {off : Int} {x : Int} (tgt : Nat) (hd : decode (mcode k) pc = .ok (.ifCond .eq off, 3)) (ht : (pc : Int) + off = (tgt : Int)) (kt : x = 0 → Wm d k tgt ls t (s, u, K, R, I) Q) (kf : x ≠ 0 → Wm d k (pc + 3) ls t (s, u, K, R, I) Q) : Wm d k pc ls (vi x :: t) (s, u, K, R, I) Q := by
  by_cases hc : x = 0
  · obtain ⟨n, r, M', h, q⟩ := kt (hc)
    exact ⟨n + 1, r, M', ⟨h.mono, _, _, hd, Or.inr ⟨rfl, x, t, rfl, tgt, ht, fun _ => h, fun h2 => absurd hc h2⟩⟩, q⟩
  · obtain ⟨n, r, M', h, q⟩ := kf (hc)
    exact ⟨n + 1, r, M', ⟨h.mono, _, _, hd, Or.inr ⟨rfl, x, t, rfl, tgt, ht, fun h2 => absurd h2 hc, fun _ => h⟩⟩, q⟩
theorem s_icmp_ne {d k pc : Nat} {ls t : List MV} {s u : Nat} {K : Nat → Nat × Nat} {R : Nat → Nat → Option Nat} {I : Nat → Nat → Int} {Q : Option MV → MM → Prop} {off : Int} {x y : Int} (tgt : Nat) (hd : decode (mcode k) pc = .ok (.if_icmp .ne off, 3)) (ht : (pc : Int) + off = (tgt : Int)) (kt : x ≠ y → Wm d k tgt ls t (s, u, K, R, I) Q) (kf : x = y → Wm d k (pc + 3) ls t (s, u, K, R, I) Q) : Wm d k pc ls (vi y :: vi x :: t) (s, u, K, R, I) Q := by
  by_cases hc : x ≠ y
  · obtain ⟨n, r, M', h, q⟩ := kt (hc)
    exact ⟨n + 1, r, M', ⟨h.mono, _, _, hd, Or.inr ⟨rfl, x, y, t, rfl, tgt, ht, fun _ => h, fun h2 => absurd hc h2⟩⟩, q⟩
  · obtain ⟨n, r, M', h, q⟩ := kf (Classical.not_not.mp hc)
    exact ⟨n + 1, r, M', ⟨h.mono, _, _, hd, Or.inr ⟨rfl, x, y, t, rfl, tgt, ht, fun h2 => absurd h2 hc, fun _ => h⟩⟩, q⟩
theorem s_if_ne {d k pc : Nat} {ls t : List MV} {s u : Nat} {K : Nat → Nat × Nat} {R : Nat → Nat → Option Nat} {I : Nat → Nat → Int} {Q : Option MV → MM → Prop} {off : Int} {x : Int} (tgt : Nat) (hd : decode (mcode k) pc = .ok (.ifCond .ne off, 3)) (ht : (pc : Int) + off = (tgt : Int)) (kt : x ≠ 0 → Wm d k tgt ls t (s, u, K, R, I) Q) (kf : x = 0 → Wm d k (pc + 3) ls t (s, u, K, R, I) Q) : Wm d k pc ls (vi x :: t) (s, u, K, R, I) Q := by
  by_cases hc : x ≠ 0
  · obtain ⟨n, r, M', h, q⟩ := kt (hc)
    exact ⟨n + 1, r, M', ⟨h.mono, _, _, hd, Or.inr ⟨rfl, x, t, rfl, tgt, ht, fun _ => h, fun h2 => absurd hc h2⟩⟩, q⟩
  · obtain ⟨n, r, M', h, q⟩ := kf (Classical.not_not.mp hc)
    exact ⟨n + 1, r, M', ⟨h.mono, _, _, hd, Or.inr ⟨rfl, x, t, rfl, tgt, ht, fun h2 => absurd h2 hc, fun _ => h⟩⟩, q⟩
theorem s_icmp_lt {d k pc : Nat} {ls t : List MV} {s u : Nat} {K : Nat → Nat × Nat} {R : Nat → Nat → Option Nat} {I : Nat → Nat → Int} {Q : Option MV → MM → Prop} {off : Int} {x y : Int} (tgt : Nat) (hd : decode (mcode k) pc = .ok (.if_icmp .lt off, 3)) (ht : (pc : Int) + off = (tgt : Int)) (kt : x < y → Wm d k tgt ls t (s, u, K, R, I) Q) (kf : y ≤ x → Wm d k (pc + 3) ls t (s, u, K, R, I) Q) : Wm d k pc ls (vi y :: vi x :: t) (s, u, K, R, I) Q := by
  by_cases hc : x < y
  · obtain ⟨n, r, M', h, q⟩ := kt (hc)
    exact ⟨n + 1, r, M', ⟨h.mono, _, _, hd, Or.inr ⟨rfl, x, y, t, rfl, tgt, ht, fun _ => h, fun h2 => absurd hc h2⟩⟩, q⟩
  · obtain ⟨n, r, M', h, q⟩ := kf (Int.not_lt.mp hc)
    exact ⟨n + 1, r, M', ⟨h.mono, _, _, hd, Or.inr ⟨rfl, x, y, t, rfl, tgt, ht, fun h2 => absurd h2 hc, fun _ => h⟩⟩, q⟩
theorem s_if_lt {d k pc : Nat} {ls t : List MV} {s u : Nat} {K : Nat → Nat × Nat} {R : Nat → Nat → Option Nat} {I : Nat → Nat → Int} {Q : Option MV → MM → Prop} {off : Int} {x : Int} (tgt : Nat) (hd : decode (mcode k) pc = .ok (.ifCond .lt off, 3)) (ht : (pc : Int) + off = (tgt : Int)) (kt : x < 0 → Wm d k tgt ls t (s, u, K, R, I) Q) (kf : 0 ≤ x → Wm d k (pc + 3) ls t (s, u, K, R, I) Q) : Wm d k pc ls (vi x :: t) (s, u, K, R, I) Q := by
  by_cases hc : x < 0
  · obtain ⟨n, r, M', h, q⟩ := kt (hc)
    exact ⟨n + 1, r, M', ⟨h.mono, _, _, hd, Or.inr ⟨rfl, x, t, rfl, tgt, ht, fun _ => h, fun h2 => absurd hc h2⟩⟩, q⟩
  · obtain ⟨n, r, M', h, q⟩ := kf (Int.not_lt.mp hc)
    exact ⟨n + 1, r, M', ⟨h.mono, _, _, hd, Or.inr ⟨rfl, x, t, rfl, tgt, ht, fun h2 => absurd h2 hc, fun _ => h⟩⟩, q⟩
theorem s_icmp_ge {d k pc : Nat} {ls t : List MV} {s u : Nat} {K : Nat → Nat × Nat} {R : Nat → Nat → Option Nat} {I : Nat → Nat → Int} {Q : Option MV → MM → Prop} {off : Int} {x y : Int} (tgt : Nat) (hd : decode (mcode k) pc = .ok (.if_icmp .ge off, 3)) (ht : (pc : Int) + off = (tgt : Int)) (kt : y ≤ x → Wm d k tgt ls t (s, u, K, R, I) Q) (kf : x < y → Wm d k (pc + 3) ls t (s, u, K, R, I) Q) : Wm d k pc ls (vi y :: vi x :: t) (s, u, K, R, I) Q := by
  by_cases hc : y ≤ x
  · obtain ⟨n, r, M', h, q⟩ := kt (hc)
    exact ⟨n + 1, r, M', ⟨h.mono, _, _, hd, Or.inr ⟨rfl, x, y, t, rfl, tgt, ht, fun _ => h, fun h2 => absurd hc h2⟩⟩, q⟩
  · obtain ⟨n, r, M', h, q⟩ := kf (Int.not_le.mp hc)
    exact ⟨n + 1, r, M', ⟨h.mono, _, _, hd, Or.inr ⟨rfl, x, y, t, rfl, tgt, ht, fun h2 => absurd h2 hc, fun _ => h⟩⟩, q⟩
theorem s_if_ge {d k pc : Nat} {ls t : List MV} {s u : Nat} {K : Nat → Nat × Nat} {R : Nat → Nat → Option Nat} {I : Nat → Nat → Int} {Q : Option MV → MM → Prop} {off : Int} {x : Int} (tgt : Nat) (hd : decode (mcode k) pc = .ok (.ifCond .ge off, 3)) (ht : (pc : Int) + off = (tgt : Int)) (kt : 0 ≤ x → Wm d k tgt ls t (s, u, K, R, I) Q) (kf : x < 0 → Wm d k (pc + 3) ls t (s, u, K, R, I) Q) : Wm d k pc ls (vi x :: t) (s, u, K, R, I) Q := by
  by_cases hc : 0 ≤ x
  · obtain ⟨n, r, M', h, q⟩ := kt (hc)
    exact ⟨n + 1, r, M', ⟨h.mono, _, _, hd, Or.inr ⟨rfl, x, t, rfl, tgt, ht, fun _ => h, fun h2 => absurd hc h2⟩⟩, q⟩
  · obtain ⟨n, r, M', h, q⟩ := kf (Int.not_le.mp hc)
    exact ⟨n + 1, r, M', ⟨h.mono, _, _, hd, Or.inr ⟨rfl, x, t, rfl, tgt, ht, fun h2 => absurd h2 hc, fun _ => h⟩⟩, q⟩
theorem s_icmp_gt {d k pc : Nat} {ls t : List MV} {s u : Nat} {K : Nat → Nat × Nat} {R : Nat → Nat → Option Nat} {I : Nat → Nat → Int} {Q : Option MV → MM → Prop} {off : Int} {x y : Int} (tgt : Nat) (hd : decode (mcode k) pc = .ok (.if_icmp .gt off, 3)) (ht : (pc : Int) + off = (tgt : Int)) (kt : y < x → Wm d k tgt ls t (s, u, K, R, I) Q) (kf : x ≤ y → Wm d k (pc + 3) ls t (s, u, K, R, I) Q) : Wm d k pc ls (vi y :: vi x :: t) (s, u, K, R, I) Q := by
  by_cases hc : y < x
  · obtain ⟨n, r, M', h, q⟩ := kt (hc)
    exact ⟨n + 1, r, M', ⟨h.mono, _, _, hd, Or.inr ⟨rfl, x, y, t, rfl, tgt, ht, fun _ => h, fun h2 => absurd hc h2⟩⟩, q⟩
  · obtain ⟨n, r, M', h, q⟩ := kf (Int.not_lt.mp hc)
    exact ⟨n + 1, r, M', ⟨h.mono, _, _, hd, Or.inr ⟨rfl, x, y, t, rfl, tgt, ht, fun h2 => absurd h2 hc, fun _ => h⟩⟩, q⟩
theorem s_if_gt {d k pc : Nat} {ls t : List MV} {s u : Nat} {K : Nat → Nat × Nat} {R : Nat → Nat → Option Nat} {I : Nat → Nat → Int} {Q : Option MV → MM → Prop} {off : Int} {x : Int} (tgt : Nat) (hd : decode (mcode k) pc = .ok (.ifCond .gt off, 3)) (ht : (pc : Int) + off = (tgt : Int)) (kt : 0 < x → Wm d k tgt ls t (s, u, K, R, I) Q) (kf : x ≤ 0 → Wm d k (pc + 3) ls t (s, u, K, R, I) Q) : Wm d k pc ls (vi x :: t) (s, u, K, R, I) Q := by
  by_cases hc : 0 < x
  · obtain ⟨n, r, M', h, q⟩ := kt (hc)
    exact ⟨n + 1, r, M', ⟨h.mono, _, _, hd, Or.inr ⟨rfl, x, t, rfl, tgt, ht, fun _ => h, fun h2 => absurd hc h2⟩⟩, q⟩
  · obtain ⟨n, r, M', h, q⟩ := kf (Int.not_lt.mp hc)
    exact ⟨n + 1, r, M', ⟨h.mono, _, _, hd, Or.inr ⟨rfl, x, t, rfl, tgt, ht, fun h2 => absurd h2 hc, fun _ => h⟩⟩, q⟩
theorem s_icmp_le {d k pc : Nat} {ls t : List MV} {s u : Nat} {K : Nat → Nat × Nat} {R : Nat → Nat → Option Nat} {I : Nat → Nat → Int} {Q : Option MV → MM → Prop} {off : Int} {x y : Int} (tgt : Nat) (hd : decode (mcode k) pc = .ok (.if_icmp .le off, 3)) (ht : (pc : Int) + off = (tgt : Int)) (kt : x ≤ y → Wm d k tgt ls t (s, u, K, R, I) Q) (kf : y < x → Wm d k (pc + 3) ls t (s, u, K, R, I) Q) : Wm d k pc ls (vi y :: vi x :: t) (s, u, K, R, I) Q := by
  by_cases hc : x ≤ y
  · obtain ⟨n, r, M', h, q⟩ := kt (hc)
    exact ⟨n + 1, r, M', ⟨h.mono, _, _, hd, Or.inr ⟨rfl, x, y, t, rfl, tgt, ht, fun _ => h, fun h2 => absurd hc h2⟩⟩, q⟩
  · obtain ⟨n, r, M', h, q⟩ := kf (Int.not_le.mp hc)
    exact ⟨n + 1, r, M', ⟨h.mono, _, _, hd, Or.inr ⟨rfl, x, y, t, rfl, tgt, ht, fun h2 => absurd h2 hc, fun _ => h⟩⟩, q⟩
theorem s_if_le {d k pc : Nat} {ls t : List MV} {s u : Nat} {K : Nat → Nat × Nat} {R : Nat → Nat → Option Nat} {I : Nat → Nat → Int} {Q : Option MV → MM → Prop} {off : Int} {x : Int} (tgt : Nat) (hd : decode (mcode k) pc = .ok (.ifCond .le off, 3)) (ht : (pc : Int) + off = (tgt : Int)) (kt : x ≤ 0 → Wm d k tgt ls t (s, u, K, R, I) Q) (kf : 0 < x → Wm d k (pc + 3) ls t (s, u, K, R, I) Q) : Wm d k pc ls (vi x :: t) (s, u, K, R, I) Q := by
  by_cases hc : x ≤ 0
  · obtain ⟨n, r, M', h, q⟩ := kt (hc)
    exact ⟨n + 1, r, M', ⟨h.mono, _, _, hd, Or.inr ⟨rfl, x, t, rfl, tgt, ht, fun _ => h, fun h2 => absurd hc h2⟩⟩, q⟩
  · obtain ⟨n, r, M', h, q⟩ := kf (Int.not_le.mp hc)
    exact ⟨n + 1, r, M', ⟨h.mono, _, _, hd, Or.inr ⟨rfl, x, t, rfl, tgt, ht, fun h2 => absurd h2 hc, fun _ => h⟩⟩, q⟩
theorem s_ifnull {d k pc : Nat} {ls t : List MV} {s u : Nat} {K : Nat → Nat × Nat} {R : Nat → Nat → Option Nat} {I : Nat → Nat → Int} {Q : Option MV → MM → Prop} {off : Int} {x : Option Nat} (tgt : Nat) (hd : decode (mcode k) pc = .ok (.ifnull off, 3)) (ht : (pc : Int) + off = (tgt : Int)) (kt : x = none → Wm d k tgt ls t (s, u, K, R, I) Q) (kf : x ≠ none → Wm d k (pc + 3) ls t (s, u, K, R, I) Q) : Wm d k pc ls (vq x :: t) (s, u, K, R, I) Q := by
  by_cases hc : x = none
  · obtain ⟨n, r, M', h, q⟩ := kt (hc)
    exact ⟨n + 1, r, M', ⟨h.mono, _, _, hd, Or.inr ⟨rfl, x, t, rfl, tgt, ht, fun _ => h, fun h2 => absurd hc h2⟩⟩, q⟩
  · obtain ⟨n, r, M', h, q⟩ := kf (hc)
    exact ⟨n + 1, r, M', ⟨h.mono, _, _, hd, Or.inr ⟨rfl, x, t, rfl, tgt, ht, fun h2 => absurd h2 hc, fun _ => h⟩⟩, q⟩
theorem s_ifnonnull {d k pc : Nat} {ls t : List MV} {s u : Nat} {K : Nat → Nat × Nat} {R : Nat → Nat → Option Nat} {I : Nat → Nat → Int} {Q : Option MV → MM → Prop} {off : Int} {x : Option Nat} (tgt : Nat) (hd : decode (mcode k) pc = .ok (.ifnonnull off, 3)) (ht : (pc : Int) + off = (tgt : Int)) (kt : x ≠ none → Wm d k tgt ls t (s, u, K, R, I) Q) (kf : x = none → Wm d k (pc + 3) ls t (s, u, K, R, I) Q) : Wm d k pc ls (vq x :: t) (s, u, K, R, I) Q := by
  by_cases hc : x ≠ none
  · obtain ⟨n, r, M', h, q⟩ := kt (hc)
    exact ⟨n + 1, r, M', ⟨h.mono, _, _, hd, Or.inr ⟨rfl, x, t, rfl, tgt, ht, fun _ => h, fun h2 => absurd h2 hc⟩⟩, q⟩
  · obtain ⟨n, r, M', h, q⟩ := kf (Classical.not_not.mp hc)
    exact ⟨n + 1, r, M', ⟨h.mono, _, _, hd, Or.inr ⟨rfl, x, t, rfl, tgt, ht, fun h2 => absurd h2 hc, fun _ => h⟩⟩, q⟩
theorem s_swIn {d k pc : Nat} {ls t : List MV} {s u : Nat} {K : Nat → Nat × Nat} {R : Nat → Nat → Option Nat} {I : Nat → Nat → Int} {Q : Option MV → MM → Prop} {df lo hi : Int} {offs : Array Int} {len : Nat} {x : Int} (off : Int) (tgt : Nat) (hd : decode (mcode k) pc = .ok (.tableswitch df lo hi offs, len)) (h1 : lo ≤ x) (h2 : x ≤ hi) (ho : offs[(x - lo).toNat]? = some off) (ht : (pc : Int) + off = (tgt : Int)) (kk : Wm d k (tgt) (ls) (t) (s, u, K, R, I) Q) : Wm d k pc ls (vi x :: t) (s, u, K, R, I) Q := by
  obtain ⟨n9, r, M', h, q⟩ := kk
  exact ⟨n9 + 1, r, M', ⟨h.mono, _, _, hd, Or.inr ⟨x, t, rfl, Or.inr ⟨Int.not_lt.mpr h1, Int.not_lt.mpr h2, off, tgt, ho, ht, h⟩⟩⟩, q⟩
theorem s_swOut {d k pc : Nat} {ls t : List MV} {s u : Nat} {K : Nat → Nat × Nat} {R : Nat → Nat → Option Nat} {I : Nat → Nat → Int} {Q : Option MV → MM → Prop} {df lo hi : Int} {offs : Array Int} {len : Nat} {x : Int} (tgt : Nat) (hd : decode (mcode k) pc = .ok (.tableswitch df lo hi offs, len)) (h1 : x < lo ∨ hi < x) (ht : (pc : Int) + df = (tgt : Int)) (kk : Wm d k (tgt) (ls) (t) (s, u, K, R, I) Q) : Wm d k pc ls (vi x :: t) (s, u, K, R, I) Q := by
  obtain ⟨n9, r, M', h, q⟩ := kk
  exact ⟨n9 + 1, r, M', ⟨h.mono, _, _, hd, Or.inr ⟨x, t, rfl, Or.inl ⟨h1, tgt, ht, h⟩⟩⟩, q⟩
theorem s_getI {d k pc : Nat} {ls t : List MV} {s u : Nat} {K : Nat → Nat × Nat} {R : Nat → Nat → Option Nat} {I : Nat → Nat → Int} {Q : Option MV → MM → Prop} {idx c j a : Nat} {x : Int} (hd : decode (mcode k) pc = .ok (.getfield idx, 3)) (hp : pool (mcls k) idx = some (1, c, j)) (ha : K a = (c, 0)) (hv : I a j = x) (kk : Wm d k (pc + 3) (ls) (vi x :: t) (s, u, K, R, I) Q) : Wm d k pc ls (vr a :: t) (s, u, K, R, I) Q := by
  obtain ⟨n9, r, M', h, q⟩ := kk
  exact ⟨n9 + 1, r, M', ⟨h.mono, _, _, hd, Or.inr ⟨rfl, 1, c, j, a, t, vi x, rfl, hp, ha, Or.inl ⟨rfl, congrArg vi hv.symm⟩, h⟩⟩, q⟩
theorem s_getZ {d k pc : Nat} {ls t : List MV} {s u : Nat} {K : Nat → Nat × Nat} {R : Nat → Nat → Option Nat} {I : Nat → Nat → Int} {Q : Option MV → MM → Prop} {idx c j a : Nat} {x : Int} (hd : decode (mcode k) pc = .ok (.getfield idx, 3)) (hp : pool (mcls k) idx = some (2, c, j)) (ha : K a = (c, 0)) (hv : I a j = x) (kk : Wm d k (pc + 3) (ls) (vi x :: t) (s, u, K, R, I) Q) : Wm d k pc ls (vr a :: t) (s, u, K, R, I) Q := by
  obtain ⟨n9, r, M', h, q⟩ := kk
  exact ⟨n9 + 1, r, M', ⟨h.mono, _, _, hd, Or.inr ⟨rfl, 2, c, j, a, t, vi x, rfl, hp, ha, Or.inr (Or.inl ⟨rfl, congrArg vi hv.symm⟩), h⟩⟩, q⟩
theorem s_getR {d k pc : Nat} {ls t : List MV} {s u : Nat} {K : Nat → Nat × Nat} {R : Nat → Nat → Option Nat} {I : Nat → Nat → Int} {Q : Option MV → MM → Prop} {idx c j a b : Nat} (hd : decode (mcode k) pc = .ok (.getfield idx, 3)) (hp : pool (mcls k) idx = some (3, c, j)) (ha : K a = (c, 0)) (hv : R a j = some b) (kk : Wm d k (pc + 3) (ls) (vr b :: t) (s, u, K, R, I) Q) : Wm d k pc ls (vr a :: t) (s, u, K, R, I) Q := by
  obtain ⟨n9, r, M', h, q⟩ := kk
  exact ⟨n9 + 1, r, M', ⟨h.mono, _, _, hd, Or.inr ⟨rfl, 3, c, j, a, t, vr b, rfl, hp, ha, Or.inr (Or.inr ⟨rfl, congrArg vq hv.symm⟩), h⟩⟩, q⟩
theorem s_getQ {d k pc : Nat} {ls t : List MV} {s u : Nat} {K : Nat → Nat × Nat} {R : Nat → Nat → Option Nat} {I : Nat → Nat → Int} {Q : Option MV → MM → Prop} {idx c j a : Nat} {b : Option Nat} (hd : decode (mcode k) pc = .ok (.getfield idx, 3)) (hp : pool (mcls k) idx = some (3, c, j)) (ha : K a = (c, 0)) (hv : R a j = b) (kk : Wm d k (pc + 3) (ls) (vq b :: t) (s, u, K, R, I) Q) : Wm d k pc ls (vr a :: t) (s, u, K, R, I) Q := by
  obtain ⟨n9, r, M', h, q⟩ := kk
  exact ⟨n9 + 1, r, M', ⟨h.mono, _, _, hd, Or.inr ⟨rfl, 3, c, j, a, t, vq b, rfl, hp, ha, Or.inr (Or.inr ⟨rfl, congrArg vq hv.symm⟩), h⟩⟩, q⟩
theorem s_putI {d k pc : Nat} {ls t : List MV} {s u : Nat} {K : Nat → Nat × Nat} {R : Nat → Nat → Option Nat} {I : Nat → Nat → Int} {Q : Option MV → MM → Prop} {idx c j a : Nat} {x : Int} {I2 : Nat → Nat → Int} (hd : decode (mcode k) pc = .ok (.putfield idx, 3)) (hp : pool (mcls k) idx = some (1, c, j)) (ha : K a = (c, 0)) (hf : fn c j = false) (hi : up I a j x = I2) (kk : Wm d k (pc + 3) (ls) (t) (s, u, K, R, I2) Q) : Wm d k pc ls (vi x :: vr a :: t) (s, u, K, R, I) Q := by
  obtain ⟨n9, r, M', h, q⟩ := kk
  exact ⟨n9 + 1, r, M', ⟨h.mono, _, _, hd, Or.inr ⟨rfl, 1, c, j, a, t, vi x, _, rfl, hp, ha, Or.inl hf, Or.inl ⟨rfl, x, rfl, rfl⟩, by rw [hi]; exact h⟩⟩, q⟩
theorem s_putZ {d k pc : Nat} {ls t : List MV} {s u : Nat} {K : Nat → Nat × Nat} {R : Nat → Nat → Option Nat} {I : Nat → Nat → Int} {Q : Option MV → MM → Prop} {idx c j a : Nat} {x : Int} {I2 : Nat → Nat → Int} (hd : decode (mcode k) pc = .ok (.putfield idx, 3)) (hp : pool (mcls k) idx = some (2, c, j)) (ha : K a = (c, 0)) (hf : fn c j = false) (hx : x = 0 ∨ x = 1) (hi : up I a j x = I2) (kk : Wm d k (pc + 3) (ls) (t) (s, u, K, R, I2) Q) : Wm d k pc ls (vi x :: vr a :: t) (s, u, K, R, I) Q := by
  obtain ⟨n9, r, M', h, q⟩ := kk
  exact ⟨n9 + 1, r, M', ⟨h.mono, _, _, hd, Or.inr ⟨rfl, 2, c, j, a, t, vi x, _, rfl, hp, ha, Or.inl hf, Or.inr (Or.inl ⟨rfl, x, rfl, hx, rfl⟩), by rw [hi]; exact h⟩⟩, q⟩
theorem s_putR {d k pc : Nat} {ls t : List MV} {s u : Nat} {K : Nat → Nat × Nat} {R : Nat → Nat → Option Nat} {I : Nat → Nat → Int} {Q : Option MV → MM → Prop} {idx c j a x : Nat} {R2 : Nat → Nat → Option Nat} (hd : decode (mcode k) pc = .ok (.putfield idx, 3)) (hp : pool (mcls k) idx = some (3, c, j)) (ha : K a = (c, 0)) (hf : fn c j = false ∨ ((mname k).name = "<init>" ∧ mcls k = c)) (hi : up R a j (some x) = R2) (kk : Wm d k (pc + 3) (ls) (t) (s, u, K, R2, I) Q) : Wm d k pc ls (vr x :: vr a :: t) (s, u, K, R, I) Q := by
  obtain ⟨n9, r, M', h, q⟩ := kk
  exact ⟨n9 + 1, r, M', ⟨h.mono, _, _, hd, Or.inr ⟨rfl, 3, c, j, a, t, vr x, _, rfl, hp, ha, hf, Or.inr (Or.inr ⟨rfl, x, rfl, rfl⟩), by rw [hi]; exact h⟩⟩, q⟩
theorem s_iald {d k pc : Nat} {ls t : List MV} {s u : Nat} {K : Nat → Nat × Nat} {R : Nat → Nat → Option Nat} {I : Nat → Nat → Int} {Q : Option MV → MM → Prop} {a n : Nat} {i x : Int} (hd : decode (mcode k) pc = .ok (.iaload, 1)) (ha : K a = (20, n)) (h0 : 0 ≤ i) (h1 : i < (n : Int)) (hv : I a i.toNat = x) (kk : Wm d k (pc + 1) (ls) (vi x :: t) (s, u, K, R, I) Q) : Wm d k pc ls (vi i :: vr a :: t) (s, u, K, R, I) Q := by
  obtain ⟨n9, r, M', h, q⟩ := kk
  exact ⟨n9 + 1, r, M', ⟨h.mono, _, _, hd, Or.inr ⟨rfl, i, a, t, n, rfl, Or.inl ha, h0, h1, by subst hv; exact h⟩⟩, q⟩
theorem s_sald {d k pc : Nat} {ls t : List MV} {s u : Nat} {K : Nat → Nat × Nat} {R : Nat → Nat → Option Nat} {I : Nat → Nat → Int} {Q : Option MV → MM → Prop} {a n : Nat} {i x : Int} (hd : decode (mcode k) pc = .ok (.iaload, 1)) (ha : K a = (23, n)) (h0 : 0 ≤ i) (h1 : i < (n : Int)) (hv : I a i.toNat = x) (kk : Wm d k (pc + 1) (ls) (vi x :: t) (s, u, K, R, I) Q) : Wm d k pc ls (vi i :: vr a :: t) (s, u, K, R, I) Q := by
  obtain ⟨n9, r, M', h, q⟩ := kk
  exact ⟨n9 + 1, r, M', ⟨h.mono, _, _, hd, Or.inr ⟨rfl, i, a, t, n, rfl, Or.inr ha, h0, h1, by subst hv; exact h⟩⟩, q⟩
theorem s_bald {d k pc : Nat} {ls t : List MV} {s u : Nat} {K : Nat → Nat × Nat} {R : Nat → Nat → Option Nat} {I : Nat → Nat → Int} {Q : Option MV → MM → Prop} {a n : Nat} {i x : Int} (hd : decode (mcode k) pc = .ok (.baload, 1)) (ha : K a = (21, n)) (h0 : 0 ≤ i) (h1 : i < (n : Int)) (hv : I a i.toNat = x) (kk : Wm d k (pc + 1) (ls) (vi x :: t) (s, u, K, R, I) Q) : Wm d k pc ls (vi i :: vr a :: t) (s, u, K, R, I) Q := by
  obtain ⟨n9, r, M', h, q⟩ := kk
  exact ⟨n9 + 1, r, M', ⟨h.mono, _, _, hd, Or.inr ⟨rfl, i, a, t, n, rfl, ha, h0, h1, by subst hv; exact h⟩⟩, q⟩
theorem s_aald {d k pc : Nat} {ls t : List MV} {s u : Nat} {K : Nat → Nat × Nat} {R : Nat → Nat → Option Nat} {I : Nat → Nat → Int} {Q : Option MV → MM → Prop} {a n : Nat} {i : Int} {x : Option Nat} (hd : decode (mcode k) pc = .ok (.aaload, 1)) (ha : K a = (22, n)) (h0 : 0 ≤ i) (h1 : i < (n : Int)) (hv : R a i.toNat = x) (kk : Wm d k (pc + 1) (ls) (vq x :: t) (s, u, K, R, I) Q) : Wm d k pc ls (vi i :: vr a :: t) (s, u, K, R, I) Q := by
  obtain ⟨n9, r, M', h, q⟩ := kk
  exact ⟨n9 + 1, r, M', ⟨h.mono, _, _, hd, Or.inr ⟨rfl, i, a, t, n, rfl, ha, h0, h1, by subst hv; exact h⟩⟩, q⟩
theorem s_iast {d k pc : Nat} {ls t : List MV} {s u : Nat} {K : Nat → Nat × Nat} {R : Nat → Nat → Option Nat} {I : Nat → Nat → Int} {Q : Option MV → MM → Prop} {a n : Nat} {i x : Int} {I2 : Nat → Nat → Int} (hd : decode (mcode k) pc = .ok (.iastore, 1)) (ha : K a = (20, n)) (h0 : 0 ≤ i) (h1 : i < (n : Int)) (hi : up I a i.toNat x = I2) (kk : Wm d k (pc + 1) (ls) (t) (s, u, K, R, I2) Q) : Wm d k pc ls (vi x :: vi i :: vr a :: t) (s, u, K, R, I) Q := by
  obtain ⟨n9, r, M', h, q⟩ := kk
  exact ⟨n9 + 1, r, M', ⟨h.mono, _, _, hd, Or.inr ⟨rfl, x, i, a, t, n, rfl, ha, h0, h1, by rw [hi]; exact h⟩⟩, q⟩
theorem s_bast {d k pc : Nat} {ls t : List MV} {s u : Nat} {K : Nat → Nat × Nat} {R : Nat → Nat → Option Nat} {I : Nat → Nat → Int} {Q : Option MV → MM → Prop} {a n : Nat} {i x : Int} {I2 : Nat → Nat → Int} (hd : decode (mcode k) pc = .ok (.bastore, 1)) (ha : K a = (21, n)) (h0 : 0 ≤ i) (h1 : i < (n : Int)) (hx : x = 0 ∨ x = 1) (hi : up I a i.toNat x = I2) (kk : Wm d k (pc + 1) (ls) (t) (s, u, K, R, I2) Q) : Wm d k pc ls (vi x :: vi i :: vr a :: t) (s, u, K, R, I) Q := by
  obtain ⟨n9, r, M', h, q⟩ := kk
  exact ⟨n9 + 1, r, M', ⟨h.mono, _, _, hd, Or.inr ⟨rfl, x, i, a, t, n, rfl, ha, h0, h1, hx, by rw [hi]; exact h⟩⟩, q⟩
theorem s_aast {d k pc : Nat} {ls t : List MV} {s u : Nat} {K : Nat → Nat × Nat} {R : Nat → Nat → Option Nat} {I : Nat → Nat → Int} {Q : Option MV → MM → Prop} {a n x : Nat} {i : Int} {R2 : Nat → Nat → Option Nat} (hd : decode (mcode k) pc = .ok (.aastore, 1)) (ha : K a = (22, n)) (hx : K x = (10, 0)) (h0 : 0 ≤ i) (h1 : i < (n : Int)) (hi : up R a i.toNat (some x) = R2) (kk : Wm d k (pc + 1) (ls) (t) (s, u, K, R2, I) Q) : Wm d k pc ls (vr x :: vi i :: vr a :: t) (s, u, K, R, I) Q := by
  obtain ⟨n9, r, M', h, q⟩ := kk
  exact ⟨n9 + 1, r, M', ⟨h.mono, _, _, hd, Or.inr ⟨rfl, x, i, a, t, n, rfl, ha, hx, h0, h1, by rw [hi]; exact h⟩⟩, q⟩
theorem s_alen {d k pc : Nat} {ls t : List MV} {s u : Nat} {K : Nat → Nat × Nat} {R : Nat → Nat → Option Nat} {I : Nat → Nat → Int} {Q : Option MV → MM → Prop} {a g n : Nat} (hd : decode (mcode k) pc = .ok (.arraylength, 1)) (ha : K a = (g, n)) (hg : g = 20 ∨ g = 21 ∨ g = 22 ∨ g = 23) (kk : Wm d k (pc + 1) (ls) (vi (n : Int) :: t) (s, u, K, R, I) Q) : Wm d k pc ls (vr a :: t) (s, u, K, R, I) Q := by
  obtain ⟨n9, r, M', h, q⟩ := kk
  exact ⟨n9 + 1, r, M', ⟨h.mono, _, _, hd, Or.inr ⟨rfl, a, t, g, n, rfl, ha, hg, h⟩⟩, q⟩
theorem s_newa {d k pc : Nat} {ls t : List MV} {s u : Nat} {K : Nat → Nat × Nat} {R : Nat → Nat → Option Nat} {I : Nat → Nat → Int} {Q : Option MV → MM → Prop} {n : Int} {ty : ArrayType} {g : Nat} (hd : decode (mcode k) pc = .ok (.newarray ty, 2)) (h0 : 0 ≤ n) (h1 : n ≤ 100000) (hg : (ty = .int ∧ g = 20) ∨ (ty = .boolean ∧ g = 21)) (kk : Wm d k (pc + 2) ls (vr s :: t) (s + 1, u + n.toNat, upk K s (g, n.toNat), upz R s none, upz I s 0) Q) : Wm d k pc ls (vi n :: t) (s, u, K, R, I) Q := by
  obtain ⟨n9, r, M', h, q⟩ := kk
  exact ⟨n9 + 1, r, M', ⟨⟨Nat.le_trans (Nat.le_succ _) h.mono.1, Nat.le_trans (Nat.le_add_right _ _) h.mono.2⟩, _, _, hd, Or.inr ⟨rfl, n, g, t, rfl, h0, h1, hg, h⟩⟩, q⟩
theorem s_anew {d k pc : Nat} {ls t : List MV} {s u : Nat} {K : Nat → Nat × Nat} {R : Nat → Nat → Option Nat} {I : Nat → Nat → Int} {Q : Option MV → MM → Prop} {n : Int} {idx : Nat} (hd : decode (mcode k) pc = .ok (.anewarray idx, 3)) (hp : pool (mcls k) idx = some (5, 10, 3)) (h0 : 0 ≤ n) (h1 : n ≤ 100000) (kk : Wm d k (pc + 3) ls (vr s :: t) (s + 1, u + n.toNat, upk K s (22, n.toNat), upz R s none, upz I s 0) Q) : Wm d k pc ls (vi n :: t) (s, u, K, R, I) Q := by
  obtain ⟨n9, r, M', h, q⟩ := kk
  exact ⟨n9 + 1, r, M', ⟨⟨Nat.le_trans (Nat.le_succ _) h.mono.1, Nat.le_trans (Nat.le_add_right _ _) h.mono.2⟩, _, _, hd, Or.inr ⟨rfl, n, t, rfl, hp, h0, h1, h⟩⟩, q⟩
theorem s_new {d k pc : Nat} {ls t : List MV} {s u : Nat} {K : Nat → Nat × Nat} {R : Nat → Nat → Option Nat} {I : Nat → Nat → Int} {Q : Option MV → MM → Prop} {c n : Nat} {idx : Nat} (hd : decode (mcode k) pc = .ok (.new idx, 3)) (hp : pool (mcls k) idx = some (5, c, n)) (kk : Wm d k (pc + 3) ls (vr s :: t) (s + 1, u + n, upk K s (c, 0), upz R s none, upz I s 0) Q) : Wm d k pc ls (t) (s, u, K, R, I) Q := by
  obtain ⟨n9, r, M', h, q⟩ := kk
  exact ⟨n9 + 1, r, M', ⟨⟨Nat.le_trans (Nat.le_succ _) h.mono.1, Nat.le_trans (Nat.le_add_right _ _) h.mono.2⟩, _, _, hd, Or.inr ⟨rfl, c, n, hp, h⟩⟩, q⟩
theorem s_inv0 {d k pc : Nat} {ls t : List MV} {s u : Nat} {K : Nat → Nat × Nat} {R : Nat → Nat → Option Nat} {I : Nat → Nat → Int} {Q : Option MV → MM → Prop} {idx y a c : Nat}  {Q1 : Option MV → MM → Prop} (hd : decode (mcode k) pc = .ok (.invokevirtual idx, 3)) (hp : pool (mcls k) idx = some (4, y, 0)) (hy : mcls y = c) (ha : K a = (c, 0)) (hs : mstat y = false) (hn : ((mname y).name == "<init>") = false) (hw : wds t ≤ 8) (hc : Rm d y [vr a] (s, u, K, R, I) Q1) (kk : ∀ r M1, Q1 r M1 → Wm d k (pc + 3) ls (r.toList ++ t) M1 Q) : Wm d k pc ls (vr a :: t) (s, u, K, R, I) Q := by
  obtain ⟨r1, M1, hr, hq⟩ := hc
  obtain ⟨n, r, M', h, q⟩ := kk r1 M1 hq
  exact ⟨n + 1, r, M', ⟨⟨Nat.le_trans hr.mono.1 h.mono.1, Nat.le_trans hr.mono.2 h.mono.2⟩, _, _, hd, Or.inr ⟨rfl, y, 0, [], a, t, r1, M1, hp, rfl, rfl, hy ▸ ha, hs, hn, hw, hr, h⟩⟩, q⟩
theorem s_ini0 {d k pc : Nat} {ls t : List MV} {s u : Nat} {K : Nat → Nat × Nat} {R : Nat → Nat → Option Nat} {I : Nat → Nat → Int} {Q : Option MV → MM → Prop} {idx y a : Nat}  {Q1 : Option MV → MM → Prop} (hd : decode (mcode k) pc = .ok (.invokespecial idx, 3)) (hp : pool (mcls k) idx = some (4, y, 0)) (hs : mstat y = false) (hn : ((mname y).name == "<init>") = true) (hw : wds t ≤ 8) (hc : Rm d y [vr a] (s, u, K, R, I) Q1) (kk : ∀ r M1, Q1 r M1 → r = none ∧ Wm d k (pc + 3) ls t M1 Q) : Wm d k pc ls (vr a :: t) (s, u, K, R, I) Q := by
  obtain ⟨r1, M1, hr, hq⟩ := hc
  obtain ⟨rfl, n, r, M', h, q⟩ := kk r1 M1 hq
  exact ⟨n + 1, r, M', ⟨⟨Nat.le_trans hr.mono.1 h.mono.1, Nat.le_trans hr.mono.2 h.mono.2⟩, _, _, hd, Or.inr ⟨rfl, Or.inl ⟨y, 0, [], a, t, M1, hp, rfl, rfl, hs, hn, hw, hr, h⟩⟩⟩, q⟩
theorem s_inv1 {d k pc : Nat} {ls t : List MV} {s u : Nat} {K : Nat → Nat × Nat} {R : Nat → Nat → Option Nat} {I : Nat → Nat → Int} {Q : Option MV → MM → Prop} {idx y a c : Nat} {x1 : MV} {Q1 : Option MV → MM → Prop} (hd : decode (mcode k) pc = .ok (.invokevirtual idx, 3)) (hp : pool (mcls k) idx = some (4, y, 1)) (hy : mcls y = c) (ha : K a = (c, 0)) (hs : mstat y = false) (hn : ((mname y).name == "<init>") = false) (hw : wds t ≤ 8) (hc : Rm d y [vr a, x1] (s, u, K, R, I) Q1) (kk : ∀ r M1, Q1 r M1 → Wm d k (pc + 3) ls (r.toList ++ t) M1 Q) : Wm d k pc ls (x1 :: vr a :: t) (s, u, K, R, I) Q := by
  obtain ⟨r1, M1, hr, hq⟩ := hc
  obtain ⟨n, r, M', h, q⟩ := kk r1 M1 hq
  exact ⟨n + 1, r, M', ⟨⟨Nat.le_trans hr.mono.1 h.mono.1, Nat.le_trans hr.mono.2 h.mono.2⟩, _, _, hd, Or.inr ⟨rfl, y, 1, [x1], a, t, r1, M1, hp, rfl, rfl, hy ▸ ha, hs, hn, hw, hr, h⟩⟩, q⟩
theorem s_ini1 {d k pc : Nat} {ls t : List MV} {s u : Nat} {K : Nat → Nat × Nat} {R : Nat → Nat → Option Nat} {I : Nat → Nat → Int} {Q : Option MV → MM → Prop} {idx y a : Nat} {x1 : MV} {Q1 : Option MV → MM → Prop} (hd : decode (mcode k) pc = .ok (.invokespecial idx, 3)) (hp : pool (mcls k) idx = some (4, y, 1)) (hs : mstat y = false) (hn : ((mname y).name == "<init>") = true) (hw : wds t ≤ 8) (hc : Rm d y [vr a, x1] (s, u, K, R, I) Q1) (kk : ∀ r M1, Q1 r M1 → r = none ∧ Wm d k (pc + 3) ls t M1 Q) : Wm d k pc ls (x1 :: vr a :: t) (s, u, K, R, I) Q := by
  obtain ⟨r1, M1, hr, hq⟩ := hc
  obtain ⟨rfl, n, r, M', h, q⟩ := kk r1 M1 hq
  exact ⟨n + 1, r, M', ⟨⟨Nat.le_trans hr.mono.1 h.mono.1, Nat.le_trans hr.mono.2 h.mono.2⟩, _, _, hd, Or.inr ⟨rfl, Or.inl ⟨y, 1, [x1], a, t, M1, hp, rfl, rfl, hs, hn, hw, hr, h⟩⟩⟩, q⟩
theorem s_sta1 {d k pc : Nat} {ls t : List MV} {s u : Nat} {K : Nat → Nat × Nat} {R : Nat → Nat → Option Nat} {I : Nat → Nat → Int} {Q : Option MV → MM → Prop} {idx y : Nat} {x1 : MV} {Q1 : Option MV → MM → Prop} (hd : decode (mcode k) pc = .ok (.invokestatic idx, 3)) (hp : pool (mcls k) idx = some (4, y, 1)) (hs : mstat y = true) (hw : wds t ≤ 8) (hc : Rm d y [x1] (s, u, K, R, I) Q1) (kk : ∀ r M1, Q1 r M1 → Wm d k (pc + 3) ls (r.toList ++ t) M1 Q) : Wm d k pc ls (x1 :: t) (s, u, K, R, I) Q := by
  obtain ⟨r1, M1, hr, hq⟩ := hc
  obtain ⟨n, r, M', h, q⟩ := kk r1 M1 hq
  exact ⟨n + 1, r, M', ⟨⟨Nat.le_trans hr.mono.1 h.mono.1, Nat.le_trans hr.mono.2 h.mono.2⟩, _, _, hd, Or.inr ⟨rfl, Or.inl ⟨y, 1, [x1], t, r1, M1, hp, rfl, rfl, hs, hw, hr, h⟩⟩⟩, q⟩
theorem s_inv2 {d k pc : Nat} {ls t : List MV} {s u : Nat} {K : Nat → Nat × Nat} {R : Nat → Nat → Option Nat} {I : Nat → Nat → Int} {Q : Option MV → MM → Prop} {idx y a c : Nat} {x1 x2 : MV} {Q1 : Option MV → MM → Prop} (hd : decode (mcode k) pc = .ok (.invokevirtual idx, 3)) (hp : pool (mcls k) idx = some (4, y, 2)) (hy : mcls y = c) (ha : K a = (c, 0)) (hs : mstat y = false) (hn : ((mname y).name == "<init>") = false) (hw : wds t ≤ 8) (hc : Rm d y [vr a, x1, x2] (s, u, K, R, I) Q1) (kk : ∀ r M1, Q1 r M1 → Wm d k (pc + 3) ls (r.toList ++ t) M1 Q) : Wm d k pc ls (x2 :: x1 :: vr a :: t) (s, u, K, R, I) Q := by
  obtain ⟨r1, M1, hr, hq⟩ := hc
  obtain ⟨n, r, M', h, q⟩ := kk r1 M1 hq
  exact ⟨n + 1, r, M', ⟨⟨Nat.le_trans hr.mono.1 h.mono.1, Nat.le_trans hr.mono.2 h.mono.2⟩, _, _, hd, Or.inr ⟨rfl, y, 2, [x1, x2], a, t, r1, M1, hp, rfl, rfl, hy ▸ ha, hs, hn, hw, hr, h⟩⟩, q⟩
theorem s_sta2 {d k pc : Nat} {ls t : List MV} {s u : Nat} {K : Nat → Nat × Nat} {R : Nat → Nat → Option Nat} {I : Nat → Nat → Int} {Q : Option MV → MM → Prop} {idx y : Nat} {x1 x2 : MV} {Q1 : Option MV → MM → Prop} (hd : decode (mcode k) pc = .ok (.invokestatic idx, 3)) (hp : pool (mcls k) idx = some (4, y, 2)) (hs : mstat y = true) (hw : wds t ≤ 8) (hc : Rm d y [x1, x2] (s, u, K, R, I) Q1) (kk : ∀ r M1, Q1 r M1 → Wm d k (pc + 3) ls (r.toList ++ t) M1 Q) : Wm d k pc ls (x2 :: x1 :: t) (s, u, K, R, I) Q := by
  obtain ⟨r1, M1, hr, hq⟩ := hc
  obtain ⟨n, r, M', h, q⟩ := kk r1 M1 hq
  exact ⟨n + 1, r, M', ⟨⟨Nat.le_trans hr.mono.1 h.mono.1, Nat.le_trans hr.mono.2 h.mono.2⟩, _, _, hd, Or.inr ⟨rfl, Or.inl ⟨y, 2, [x1, x2], t, r1, M1, hp, rfl, rfl, hs, hw, hr, h⟩⟩⟩, q⟩
theorem s_inv3 {d k pc : Nat} {ls t : List MV} {s u : Nat} {K : Nat → Nat × Nat} {R : Nat → Nat → Option Nat} {I : Nat → Nat → Int} {Q : Option MV → MM → Prop} {idx y a c : Nat} {x1 x2 x3 : MV} {Q1 : Option MV → MM → Prop} (hd : decode (mcode k) pc = .ok (.invokevirtual idx, 3)) (hp : pool (mcls k) idx = some (4, y, 3)) (hy : mcls y = c) (ha : K a = (c, 0)) (hs : mstat y = false) (hn : ((mname y).name == "<init>") = false) (hw : wds t ≤ 8) (hc : Rm d y [vr a, x1, x2, x3] (s, u, K, R, I) Q1) (kk : ∀ r M1, Q1 r M1 → Wm d k (pc + 3) ls (r.toList ++ t) M1 Q) : Wm d k pc ls (x3 :: x2 :: x1 :: vr a :: t) (s, u, K, R, I) Q := by
  obtain ⟨r1, M1, hr, hq⟩ := hc
  obtain ⟨n, r, M', h, q⟩ := kk r1 M1 hq
  exact ⟨n + 1, r, M', ⟨⟨Nat.le_trans hr.mono.1 h.mono.1, Nat.le_trans hr.mono.2 h.mono.2⟩, _, _, hd, Or.inr ⟨rfl, y, 3, [x1, x2, x3], a, t, r1, M1, hp, rfl, rfl, hy ▸ ha, hs, hn, hw, hr, h⟩⟩, q⟩
theorem s_sta3 {d k pc : Nat} {ls t : List MV} {s u : Nat} {K : Nat → Nat × Nat} {R : Nat → Nat → Option Nat} {I : Nat → Nat → Int} {Q : Option MV → MM → Prop} {idx y : Nat} {x1 x2 x3 : MV} {Q1 : Option MV → MM → Prop} (hd : decode (mcode k) pc = .ok (.invokestatic idx, 3)) (hp : pool (mcls k) idx = some (4, y, 3)) (hs : mstat y = true) (hw : wds t ≤ 8) (hc : Rm d y [x1, x2, x3] (s, u, K, R, I) Q1) (kk : ∀ r M1, Q1 r M1 → Wm d k (pc + 3) ls (r.toList ++ t) M1 Q) : Wm d k pc ls (x3 :: x2 :: x1 :: t) (s, u, K, R, I) Q := by
  obtain ⟨r1, M1, hr, hq⟩ := hc
  obtain ⟨n, r, M', h, q⟩ := kk r1 M1 hq
  exact ⟨n + 1, r, M', ⟨⟨Nat.le_trans hr.mono.1 h.mono.1, Nat.le_trans hr.mono.2 h.mono.2⟩, _, _, hd, Or.inr ⟨rfl, Or.inl ⟨y, 3, [x1, x2, x3], t, r1, M1, hp, rfl, rfl, hs, hw, hr, h⟩⟩⟩, q⟩
theorem s_inv4 {d k pc : Nat} {ls t : List MV} {s u : Nat} {K : Nat → Nat × Nat} {R : Nat → Nat → Option Nat} {I : Nat → Nat → Int} {Q : Option MV → MM → Prop} {idx y a c : Nat} {x1 x2 x3 x4 : MV} {Q1 : Option MV → MM → Prop} (hd : decode (mcode k) pc = .ok (.invokevirtual idx, 3)) (hp : pool (mcls k) idx = some (4, y, 4)) (hy : mcls y = c) (ha : K a = (c, 0)) (hs : mstat y = false) (hn : ((mname y).name == "<init>") = false) (hw : wds t ≤ 8) (hc : Rm d y [vr a, x1, x2, x3, x4] (s, u, K, R, I) Q1) (kk : ∀ r M1, Q1 r M1 → Wm d k (pc + 3) ls (r.toList ++ t) M1 Q) : Wm d k pc ls (x4 :: x3 :: x2 :: x1 :: vr a :: t) (s, u, K, R, I) Q := by
  obtain ⟨r1, M1, hr, hq⟩ := hc
  obtain ⟨n, r, M', h, q⟩ := kk r1 M1 hq
  exact ⟨n + 1, r, M', ⟨⟨Nat.le_trans hr.mono.1 h.mono.1, Nat.le_trans hr.mono.2 h.mono.2⟩, _, _, hd, Or.inr ⟨rfl, y, 4, [x1, x2, x3, x4], a, t, r1, M1, hp, rfl, rfl, hy ▸ ha, hs, hn, hw, hr, h⟩⟩, q⟩
theorem s_sta4 {d k pc : Nat} {ls t : List MV} {s u : Nat} {K : Nat → Nat × Nat} {R : Nat → Nat → Option Nat} {I : Nat → Nat → Int} {Q : Option MV → MM → Prop} {idx y : Nat} {x1 x2 x3 x4 : MV} {Q1 : Option MV → MM → Prop} (hd : decode (mcode k) pc = .ok (.invokestatic idx, 3)) (hp : pool (mcls k) idx = some (4, y, 4)) (hs : mstat y = true) (hw : wds t ≤ 8) (hc : Rm d y [x1, x2, x3, x4] (s, u, K, R, I) Q1) (kk : ∀ r M1, Q1 r M1 → Wm d k (pc + 3) ls (r.toList ++ t) M1 Q) : Wm d k pc ls (x4 :: x3 :: x2 :: x1 :: t) (s, u, K, R, I) Q := by
  obtain ⟨r1, M1, hr, hq⟩ := hc
  obtain ⟨n, r, M', h, q⟩ := kk r1 M1 hq
  exact ⟨n + 1, r, M', ⟨⟨Nat.le_trans hr.mono.1 h.mono.1, Nat.le_trans hr.mono.2 h.mono.2⟩, _, _, hd, Or.inr ⟨rfl, Or.inl ⟨y, 4, [x1, x2, x3, x4], t, r1, M1, hp, rfl, rfl, hs, hw, hr, h⟩⟩⟩, q⟩
theorem s_inv5 {d k pc : Nat} {ls t : List MV} {s u : Nat} {K : Nat → Nat × Nat} {R : Nat → Nat → Option Nat} {I : Nat → Nat → Int} {Q : Option MV → MM → Prop} {idx y a c : Nat} {x1 x2 x3 x4 x5 : MV} {Q1 : Option MV → MM → Prop} (hd : decode (mcode k) pc = .ok (.invokevirtual idx, 3)) (hp : pool (mcls k) idx = some (4, y, 5)) (hy : mcls y = c) (ha : K a = (c, 0)) (hs : mstat y = false) (hn : ((mname y).name == "<init>") = false) (hw : wds t ≤ 8) (hc : Rm d y [vr a, x1, x2, x3, x4, x5] (s, u, K, R, I) Q1) (kk : ∀ r M1, Q1 r M1 → Wm d k (pc + 3) ls (r.toList ++ t) M1 Q) : Wm d k pc ls (x5 :: x4 :: x3 :: x2 :: x1 :: vr a :: t) (s, u, K, R, I) Q := by
  obtain ⟨r1, M1, hr, hq⟩ := hc
  obtain ⟨n, r, M', h, q⟩ := kk r1 M1 hq
  exact ⟨n + 1, r, M', ⟨⟨Nat.le_trans hr.mono.1 h.mono.1, Nat.le_trans hr.mono.2 h.mono.2⟩, _, _, hd, Or.inr ⟨rfl, y, 5, [x1, x2, x3, x4, x5], a, t, r1, M1, hp, rfl, rfl, hy ▸ ha, hs, hn, hw, hr, h⟩⟩, q⟩
theorem s_obj {d k pc : Nat} {ls t : List MV} {s u : Nat} {K : Nat → Nat × Nat} {R : Nat → Nat → Option Nat} {I : Nat → Nat → Int} {Q : Option MV → MM → Prop} {idx a : Nat} (hd : decode (mcode k) pc = .ok (.invokespecial idx, 3)) (hp : pool (mcls k) idx = some (7, 0, 0)) (hw : wds t ≤ 8) (kk : Wm d k (pc + 3) (ls) (t) (s, u, K, R, I) Q) : Wm d k pc ls (vr a :: t) (s, u, K, R, I) Q := by
  obtain ⟨n9, r, M', h, q⟩ := kk
  exact ⟨n9 + 1, r, M', ⟨h.mono, _, _, hd, Or.inr ⟨rfl, Or.inr ⟨a, t, hp, rfl, hw, h⟩⟩⟩, q⟩
theorem s_copy {d k pc : Nat} {ls t : List MV} {s u : Nat} {K : Nat → Nat × Nat} {R : Nat → Nat → Option Nat} {I : Nat → Nat → Int} {Q : Option MV → MM → Prop} {idx a b g na nb : Nat} {n dp sp : Int} {I2 : Nat → Nat → Int} (hd : decode (mcode k) pc = .ok (.invokestatic idx, 3)) (hp : pool (mcls k) idx = some (6, 0, 0)) (hw : wds t ≤ 8) (ha : K a = (g, na)) (hb : K b = (g, nb)) (hg : g = 20 ∨ g = 21) (h0 : 0 ≤ n) (h1 : 0 ≤ dp) (h2 : 0 ≤ sp) (h3 : sp + n ≤ (na : Int)) (h4 : dp + n ≤ (nb : Int)) (hi : cpI I a b sp.toNat dp.toNat n.toNat = I2) (kk : Wm d k (pc + 3) (ls) (t) (s, u, K, R, I2) Q) : Wm d k pc ls (vi n :: vi dp :: vr b :: vi sp :: vr a :: t) (s, u, K, R, I) Q := by
  obtain ⟨n9, r, M', h, q⟩ := kk
  exact ⟨n9 + 1, r, M', ⟨h.mono, _, _, hd, Or.inr ⟨rfl, Or.inr (Or.inl ⟨n, dp, b, sp, a, g, na, nb, t, hp, rfl, hw, ha, hb, hg, h0, h1, h2, h3, h4, by rw [hi]; exact h⟩)⟩⟩, q⟩
theorem s_max {d k pc : Nat} {ls t : List MV} {s u : Nat} {K : Nat → Nat × Nat} {R : Nat → Nat → Option Nat} {I : Nat → Nat → Int} {Q : Option MV → MM → Prop} {idx : Nat} {x y : Int} (hd : decode (mcode k) pc = .ok (.invokestatic idx, 3)) (hp : pool (mcls k) idx = some (8, 0, 0)) (hw : wds t ≤ 8) (kk : Wm d k (pc + 3) (ls) (vi (mxI x y) :: t) (s, u, K, R, I) Q) : Wm d k pc ls (vi y :: vi x :: t) (s, u, K, R, I) Q := by
  obtain ⟨n9, r, M', h, q⟩ := kk
  exact ⟨n9 + 1, r, M', ⟨h.mono, _, _, hd, Or.inr ⟨rfl, Or.inr (Or.inr (Or.inl ⟨x, y, t, hp, rfl, hw, h⟩))⟩⟩, q⟩
theorem s_min {d k pc : Nat} {ls t : List MV} {s u : Nat} {K : Nat → Nat × Nat} {R : Nat → Nat → Option Nat} {I : Nat → Nat → Int} {Q : Option MV → MM → Prop} {idx : Nat} {x y : Int} (hd : decode (mcode k) pc = .ok (.invokestatic idx, 3)) (hp : pool (mcls k) idx = some (9, 0, 0)) (hw : wds t ≤ 8) (kk : Wm d k (pc + 3) (ls) (vi (mnI x y) :: t) (s, u, K, R, I) Q) : Wm d k pc ls (vi y :: vi x :: t) (s, u, K, R, I) Q := by
  obtain ⟨n9, r, M', h, q⟩ := kk
  exact ⟨n9 + 1, r, M', ⟨h.mono, _, _, hd, Or.inr ⟨rfl, Or.inr (Or.inr (Or.inr (Or.inl ⟨x, y, t, hp, rfl, hw, h⟩)))⟩⟩, q⟩
theorem s_abs {d k pc : Nat} {ls t : List MV} {s u : Nat} {K : Nat → Nat × Nat} {R : Nat → Nat → Option Nat} {I : Nat → Nat → Int} {Q : Option MV → MM → Prop} {idx : Nat} {x : Int} (hd : decode (mcode k) pc = .ok (.invokestatic idx, 3)) (hp : pool (mcls k) idx = some (10, 0, 0)) (hw : wds t ≤ 8) (kk : Wm d k (pc + 3) (ls) (vi (abI x) :: t) (s, u, K, R, I) Q) : Wm d k pc ls (vi x :: t) (s, u, K, R, I) Q := by
  obtain ⟨n9, r, M', h, q⟩ := kk
  exact ⟨n9 + 1, r, M', ⟨h.mono, _, _, hd, Or.inr ⟨rfl, Or.inr (Or.inr (Or.inr (Or.inr (Or.inl ⟨x, t, hp, rfl, hw, h⟩))))⟩⟩, q⟩
theorem s_absl {d k pc : Nat} {ls t : List MV} {s u : Nat} {K : Nat → Nat × Nat} {R : Nat → Nat → Option Nat} {I : Nat → Nat → Int} {Q : Option MV → MM → Prop} {idx : Nat} {x : Int} (hd : decode (mcode k) pc = .ok (.invokestatic idx, 3)) (hp : pool (mcls k) idx = some (11, 0, 0)) (hw : wds t ≤ 8) (kk : Wm d k (pc + 3) (ls) (vl (abL x) :: t) (s, u, K, R, I) Q) : Wm d k pc ls (vl x :: t) (s, u, K, R, I) Q := by
  obtain ⟨n9, r, M', h, q⟩ := kk
  exact ⟨n9 + 1, r, M', ⟨h.mono, _, _, hd, Or.inr ⟨rfl, Or.inr (Or.inr (Or.inr (Or.inr (Or.inr ⟨x, t, hp, rfl, hw, h⟩))))⟩⟩, q⟩
theorem s_iret {d k pc : Nat} {ls : List MV} {M : MM} {Q : Option MV → MM → Prop} {x : Int} (hd : decode (mcode k) pc = .ok (.ireturn, 1)) (hr : mret k = some .int) (hq : Q (some (vi x)) M) : Wm d k pc ls [vi x] M Q := ⟨1, _, M, ⟨⟨Nat.le_refl _, Nat.le_refl _⟩, _, _, hd, Or.inl ⟨⟨rfl, x, rfl, rfl, Or.inl hr⟩, rfl⟩⟩, hq⟩
theorem s_zret {d k pc : Nat} {ls : List MV} {M : MM} {Q : Option MV → MM → Prop} {x : Int} (hd : decode (mcode k) pc = .ok (.ireturn, 1)) (hr : mret k = some .boolean) (hx : x = 0 ∨ x = 1) (hq : Q (some (vi x)) M) : Wm d k pc ls [vi x] M Q := ⟨1, _, M, ⟨⟨Nat.le_refl _, Nat.le_refl _⟩, _, _, hd, Or.inl ⟨⟨rfl, x, rfl, rfl, Or.inr ⟨hr, hx⟩⟩, rfl⟩⟩, hq⟩
theorem s_lret {d k pc : Nat} {ls : List MV} {M : MM} {Q : Option MV → MM → Prop} {x : Int} (hd : decode (mcode k) pc = .ok (.lreturn, 1)) (hr : mret k = some .long) (hq : Q (some (vl x)) M) : Wm d k pc ls [vl x] M Q := ⟨1, _, M, ⟨⟨Nat.le_refl _, Nat.le_refl _⟩, _, _, hd, Or.inl ⟨⟨rfl, x, rfl, rfl, hr⟩, rfl⟩⟩, hq⟩
theorem s_vret {d k pc : Nat} {ls : List MV} {M : MM} {Q : Option MV → MM → Prop} (hd : decode (mcode k) pc = .ok (.return_, 1)) (hr : mret k = none) (hq : Q none M) : Wm d k pc ls [] M Q := ⟨1, _, M, ⟨⟨Nat.le_refl _, Nat.le_refl _⟩, _, _, hd, Or.inl ⟨⟨rfl, rfl, rfl, hr⟩, rfl⟩⟩, hq⟩
end
section
/-! what the tables hold, checked by program -/
/-- the words that may be handed on to a call -/
def gtl : List Cond := lw_tbl.filter goodWord
def tb_at (i : Nat) (w : Cond) : Bool := decide ((lwc.getD (i / 1000) [])[i % 1000]? = some w) && goodWord w
theorem lwc_in {l : List Cond} {w : Cond} (hl : l ∈ lwc) (hw : w ∈ l) : w ∈ lw_tbl := by
  unfold lw_tbl tables_1
  simp only [lwc, List.mem_cons, List.not_mem_nil, or_false] at hl
  simp only [List.mem_append]
  rcases hl with h | h | h | h | h | h | h | h | h <;> subst h <;> simp [hw]
theorem gtl_of {w : Cond} (h : w ∈ lw_tbl) (hg : goodWord w = true) : w ∈ gtl := List.mem_filter.mpr ⟨h, hg⟩
theorem tb_in {i : Nat} {w : Cond} (h : tb_at i w = true) : w ∈ gtl := by
  unfold tb_at at h
  rw [Bool.and_eq_true] at h
  have h1 := of_decide_eq_true h.1
  refine gtl_of ?_ h.2
  have hm := List.mem_of_getElem? h1
  rcases Nat.lt_or_ge (i / 1000) lwc.length with q | q
  · rw [List.getD_eq_getElem?_getD, List.getElem?_eq_getElem q] at hm
    exact lwc_in (List.getElem_mem q) hm
  · rw [List.getD_eq_getElem?_getD, List.getElem?_eq_none q] at hm
    cases hm
def nPar (d : String) : Option Nat := (parseMethodDescriptor d).map (fun d => d.parameters.length)
def chkM (q : mrow) : Bool :=
  let y := q.1
  let c := q.2.2.2.2.1
  let s := q.2.2.2.2.2.1
  decide (y.cls = cn c) && plainName y.cls && tb_at q.2.2.2.2.2.2.2.2.2 (Cond.initialized y.cls) &&
  (if s then tb_at q.2.2.2.2.2.2.2.1 (Cond.static y) else tb_at q.2.2.2.2.2.2.2.1 (Cond.instanceMethod y)) &&
  (if s || (y.name == "<init>") then true else tb_at q.2.2.2.2.2.2.2.2.1 (Cond.selects y.cls y y)) &&
  decide (y.cls ≠ "java/lang/invoke/MethodHandle") && decide (y.cls ≠ "java/lang/invoke/VarHandle") && decide (q.2.2.1 ≤ 20) && (if y.name == "<init>" then decide (q.2.2.2.1 = none) else true) && (s || decide (c < 13))
theorem kc0 : Cond.code (mname 0) (mcode 0) (mmaxl 0) (mret 0) ∈ lw_tbl := lwc_in (l := tables_1_1) (List.mem_of_getElem? (i := 1) rfl) (List.mem_of_getElem? (i := 180) (show tables_1_1[180]? = some (Cond.code ⟨"TornFringes$Acts", "<init>", "()V"⟩ prog_2_method_1_code 1 (none)) from rfl))
theorem kc1 : Cond.code (mname 1) (mcode 1) (mmaxl 1) (mret 1) ∈ lw_tbl := lwc_in (l := tables_1_2) (List.mem_of_getElem? (i := 2) rfl) (List.mem_of_getElem? (i := 147) (show tables_1_2[147]? = some (Cond.code ⟨"TornFringes$Acts", "keep", "(LTornFringes$Whole;)V"⟩ prog_2_method_2_code 2 (none)) from rfl))
theorem kc2 : Cond.code (mname 2) (mcode 2) (mmaxl 2) (mret 2) ∈ lw_tbl := lwc_in (l := tables_1_5) (List.mem_of_getElem? (i := 5) rfl) (List.mem_of_getElem? (i := 84) (show tables_1_5[84]? = some (Cond.code ⟨"TornFringes$Acts", "takeBack", "(LTornFringes$Whole;)Z"⟩ prog_2_method_3_code 3 (some .boolean)) from rfl))
theorem kc3 : Cond.code (mname 3) (mcode 3) (mmaxl 3) (mret 3) ∈ lw_tbl := lwc_in (l := tables_1_2) (List.mem_of_getElem? (i := 2) rfl) (List.mem_of_getElem? (i := 70) (show tables_1_2[70]? = some (Cond.code ⟨"TornFringes$Areas", "<init>", "()V"⟩ prog_3_method_1_code 1 (none)) from rfl))
theorem kc4 : Cond.code (mname 4) (mcode 4) (mmaxl 4) (mret 4) ∈ lw_tbl := lwc_in (l := tables_1_5) (List.mem_of_getElem? (i := 5) rfl) (List.mem_of_getElem? (i := 31) (show tables_1_5[31]? = some (Cond.code ⟨"TornFringes$Areas", "find", "(LTornFringes$Chart;LTornFringes$Lay;I)V"⟩ prog_3_method_2_code 6 (none)) from rfl))
theorem kc5 : Cond.code (mname 5) (mcode 5) (mmaxl 5) (mret 5) ∈ lw_tbl := lwc_in (l := tables_1_5) (List.mem_of_getElem? (i := 5) rfl) (List.mem_of_getElem? (i := 37) (show tables_1_5[37]? = some (Cond.code ⟨"TornFringes$Areas", "clearFrom", "(LTornFringes$Chart;I)I"⟩ prog_3_method_3_code 7 (some .int)) from rfl))
theorem kc6 : Cond.code (mname 6) (mcode 6) (mmaxl 6) (mret 6) ∈ lw_tbl := lwc_in (l := tables_1_5) (List.mem_of_getElem? (i := 5) rfl) (List.mem_of_getElem? (i := 41) (show tables_1_5[41]? = some (Cond.code ⟨"TornFringes$Areas", "push", "(I)V"⟩ prog_3_method_4_code 2 (none)) from rfl))
theorem kc7 : Cond.code (mname 7) (mcode 7) (mmaxl 7) (mret 7) ∈ lw_tbl := lwc_in (l := tables_1_1) (List.mem_of_getElem? (i := 1) rfl) (List.mem_of_getElem? (i := 31) (show tables_1_1[31]? = some (Cond.code ⟨"TornFringes$Chart", "<init>", "()V"⟩ prog_4_method_1_code 1 (none)) from rfl))
theorem kc8 : Cond.code (mname 8) (mcode 8) (mmaxl 8) (mret 8) ∈ lw_tbl := lwc_in (l := tables_1_1) (List.mem_of_getElem? (i := 1) rfl) (List.mem_of_getElem? (i := 36) (show tables_1_1[36]? = some (Cond.code ⟨"TornFringes$Chart", "reset", "(II)V"⟩ prog_4_method_2_code 4 (none)) from rfl))
theorem kc9 : Cond.code (mname 9) (mcode 9) (mmaxl 9) (mret 9) ∈ lw_tbl := lwc_in (l := tables_1_2) (List.mem_of_getElem? (i := 2) rfl) (List.mem_of_getElem? (i := 158) (show tables_1_2[158]? = some (Cond.code ⟨"TornFringes$Chart", "copyFrom", "(LTornFringes$Chart;)V"⟩ prog_4_method_3_code 2 (none)) from rfl))
theorem kc10 : Cond.code (mname 10) (mcode 10) (mmaxl 10) (mret 10) ∈ lw_tbl := lwc_in (l := tables_1_2) (List.mem_of_getElem? (i := 2) rfl) (List.mem_of_getElem? (i := 200) (show tables_1_2[200]? = some (Cond.code ⟨"TornFringes$Chart", "pixels", "()I"⟩ prog_4_method_4_code 1 (some .int)) from rfl))
theorem kc11 : Cond.code (mname 11) (mcode 11) (mmaxl 11) (mret 11) ∈ lw_tbl := lwc_in (l := tables_1_2) (List.mem_of_getElem? (i := 2) rfl) (List.mem_of_getElem? (i := 230) (show tables_1_2[230]? = some (Cond.code ⟨"TornFringes$Chart", "rowOf", "(I)I"⟩ prog_4_method_5_code 2 (some .int)) from rfl))
theorem kc12 : Cond.code (mname 12) (mcode 12) (mmaxl 12) (mret 12) ∈ lw_tbl := lwc_in (l := tables_1_2) (List.mem_of_getElem? (i := 2) rfl) (List.mem_of_getElem? (i := 234) (show tables_1_2[234]? = some (Cond.code ⟨"TornFringes$Chart", "colOf", "(I)I"⟩ prog_4_method_6_code 2 (some .int)) from rfl))
theorem kc13 : Cond.code (mname 13) (mcode 13) (mmaxl 13) (mret 13) ∈ lw_tbl := lwc_in (l := tables_1_2) (List.mem_of_getElem? (i := 2) rfl) (List.mem_of_getElem? (i := 196) (show tables_1_2[196]? = some (Cond.code ⟨"TornFringes$Chart", "hasPixel", "(I)Z"⟩ prog_4_method_7_code 2 (some .boolean)) from rfl))
theorem kc14 : Cond.code (mname 14) (mcode 14) (mmaxl 14) (mret 14) ∈ lw_tbl := lwc_in (l := tables_1_3) (List.mem_of_getElem? (i := 3) rfl) (List.mem_of_getElem? (i := 149) (show tables_1_3[149]? = some (Cond.code ⟨"TornFringes$Chart", "hasEdge", "(I)Z"⟩ prog_4_method_8_code 3 (some .boolean)) from rfl))
theorem kc15 : Cond.code (mname 15) (mcode 15) (mmaxl 15) (mret 15) ∈ lw_tbl := lwc_in (l := tables_1_2) (List.mem_of_getElem? (i := 2) rfl) (List.mem_of_getElem? (i := 225) (show tables_1_2[225]? = some (Cond.code ⟨"TornFringes$Chart", "hasRing", "(I)Z"⟩ prog_4_method_9_code 2 (some .boolean)) from rfl))
theorem kc16 : Cond.code (mname 16) (mcode 16) (mmaxl 16) (mret 16) ∈ lw_tbl := lwc_in (l := tables_1_3) (List.mem_of_getElem? (i := 3) rfl) (List.mem_of_getElem? (i := 181) (show tables_1_3[181]? = some (Cond.code ⟨"TornFringes$Chart", "tail", "(I)I"⟩ prog_4_method_10_code 2 (some .int)) from rfl))
theorem kc17 : Cond.code (mname 17) (mcode 17) (mmaxl 17) (mret 17) ∈ lw_tbl := lwc_in (l := tables_1_3) (List.mem_of_getElem? (i := 3) rfl) (List.mem_of_getElem? (i := 185) (show tables_1_3[185]? = some (Cond.code ⟨"TornFringes$Chart", "tip", "(I)I"⟩ prog_4_method_11_code 2 (some .int)) from rfl))
theorem kc18 : Cond.code (mname 18) (mcode 18) (mmaxl 18) (mret 18) ∈ lw_tbl := lwc_in (l := tables_1_3) (List.mem_of_getElem? (i := 3) rfl) (List.mem_of_getElem? (i := 177) (show tables_1_3[177]? = some (Cond.code ⟨"TornFringes$Chart", "isShut", "(I)Z"⟩ prog_4_method_12_code 2 (some .boolean)) from rfl))
theorem kc19 : Cond.code (mname 19) (mcode 19) (mmaxl 19) (mret 19) ∈ lw_tbl := lwc_in (l := tables_1_2) (List.mem_of_getElem? (i := 2) rfl) (List.mem_of_getElem? (i := 203) (show tables_1_2[203]? = some (Cond.code ⟨"TornFringes$Chart", "wrapped", "(I)I"⟩ prog_4_method_13_code 2 (some .int)) from rfl))
theorem kc20 : Cond.code (mname 20) (mcode 20) (mmaxl 20) (mret 20) ∈ lw_tbl := lwc_in (l := tables_1_3) (List.mem_of_getElem? (i := 3) rfl) (List.mem_of_getElem? (i := 2) (show tables_1_3[2]? = some (Cond.code ⟨"TornFringes$Chart", "stepFrom", "(II)I"⟩ prog_4_method_14_code 3 (some .int)) from rfl))
theorem kc21 : Cond.code (mname 21) (mcode 21) (mmaxl 21) (mret 21) ∈ lw_tbl := lwc_in (l := tables_1_4) (List.mem_of_getElem? (i := 4) rfl) (List.mem_of_getElem? (i := 161) (show tables_1_4[161]? = some (Cond.code ⟨"TornFringes$Chart", "stepOver", "(I)I"⟩ prog_4_method_15_code 2 (some .int)) from rfl))
theorem kc22 : Cond.code (mname 22) (mcode 22) (mmaxl 22) (mret 22) ∈ lw_tbl := lwc_in (l := tables_1_3) (List.mem_of_getElem? (i := 3) rfl) (List.mem_of_getElem? (i := 16) (show tables_1_3[16]? = some (Cond.code ⟨"TornFringes$Chart", "beside", "(II)I"⟩ prog_4_method_16_code 3 (some .int)) from rfl))
theorem kc23 : Cond.code (mname 23) (mcode 23) (mmaxl 23) (mret 23) ∈ lw_tbl := lwc_in (l := tables_1_3) (List.mem_of_getElem? (i := 3) rfl) (List.mem_of_getElem? (i := 207) (show tables_1_3[207]? = some (Cond.code ⟨"TornFringes$Chart", "edgeAt", "(II)I"⟩ prog_4_method_17_code 3 (some .int)) from rfl))
theorem kc24 : Cond.code (mname 24) (mcode 24) (mmaxl 24) (mret 24) ∈ lw_tbl := lwc_in (l := tables_1_3) (List.mem_of_getElem? (i := 3) rfl) (List.mem_of_getElem? (i := 163) (show tables_1_3[163]? = some (Cond.code ⟨"TornFringes$Chart", "countHidden", "()I"⟩ prog_4_method_18_code 3 (some .int)) from rfl))
theorem kc25 : Cond.code (mname 25) (mcode 25) (mmaxl 25) (mret 25) ∈ lw_tbl := lwc_in (l := tables_1_2) (List.mem_of_getElem? (i := 2) rfl) (List.mem_of_getElem? (i := 238) (show tables_1_2[238]? = some (Cond.code ⟨"TornFringes$Chart", "chargeOf", "(I)I"⟩ prog_4_method_19_code 6 (some .int)) from rfl))
theorem kc26 : Cond.code (mname 26) (mcode 26) (mmaxl 26) (mret 26) ∈ lw_tbl := lwc_in (l := tables_1_5) (List.mem_of_getElem? (i := 5) rfl) (List.mem_of_getElem? (i := 121) (show tables_1_5[121]? = some (Cond.code ⟨"TornFringes$Chart", "chargesTogether", "()I"⟩ prog_4_method_20_code 3 (some .int)) from rfl))
theorem kc27 : Cond.code (mname 27) (mcode 27) (mmaxl 27) (mret 27) ∈ lw_tbl := lwc_in (l := tables_1_3) (List.mem_of_getElem? (i := 3) rfl) (List.mem_of_getElem? (i := 30) (show tables_1_3[30]? = some (Cond.code ⟨"TornFringes$Chart", "farBetween", "(II)I"⟩ prog_4_method_21_code 3 (some .int)) from rfl))
theorem kc28 : Cond.code (mname 28) (mcode 28) (mmaxl 28) (mret 28) ∈ lw_tbl := lwc_in (l := tables_1_3) (List.mem_of_getElem? (i := 3) rfl) (List.mem_of_getElem? (i := 77) (show tables_1_3[77]? = some (Cond.code ⟨"TornFringes$Chart", "farToBorder", "(I)I"⟩ prog_4_method_22_code 5 (some .int)) from rfl))
theorem kc29 : Cond.code (mname 29) (mcode 29) (mmaxl 29) (mret 29) ∈ lw_tbl := lwc_in (l := tables_1_3) (List.mem_of_getElem? (i := 3) rfl) (List.mem_of_getElem? (i := 114) (show tables_1_3[114]? = some (Cond.code ⟨"TornFringes$Chart", "farOf", "(II)I"⟩ prog_4_method_23_code 3 (some .int)) from rfl))
theorem kc30 : Cond.code (mname 30) (mcode 30) (mmaxl 30) (mret 30) ∈ lw_tbl := lwc_in (l := tables_1_3) (List.mem_of_getElem? (i := 3) rfl) (List.mem_of_getElem? (i := 12) (show tables_1_3[12]? = some (Cond.code ⟨"TornFringes$Chart", "gradeBySteps", "(I)I"⟩ prog_4_method_24_code 6 (some .int)) from rfl))
theorem kc31 : Cond.code (mname 31) (mcode 31) (mmaxl 31) (mret 31) ∈ lw_tbl := lwc_in (l := tables_1_4) (List.mem_of_getElem? (i := 4) rfl) (List.mem_of_getElem? (i := 198) (show tables_1_4[198]? = some (Cond.code ⟨"TornFringes$Chart", "hidesOnLoop", "(IIII)Z"⟩ prog_4_method_25_code 6 (some .boolean)) from rfl))
theorem kc32 : Cond.code (mname 32) (mcode 32) (mmaxl 32) (mret 32) ∈ lw_tbl := lwc_in (l := tables_1_4) (List.mem_of_getElem? (i := 4) rfl) (List.mem_of_getElem? (i := 202) (show tables_1_4[202]? = some (Cond.code ⟨"TornFringes$Chart", "stepsRound", "(IIII)I"⟩ prog_4_method_26_code 9 (some .int)) from rfl))
theorem kc33 : Cond.code (mname 33) (mcode 33) (mmaxl 33) (mret 33) ∈ lw_tbl := lwc_in (l := tables_1_2) (List.mem_of_getElem? (i := 2) rfl) (List.mem_of_getElem? (i := 19) (show tables_1_2[19]? = some (Cond.code ⟨"TornFringes$Front", "<init>", "()V"⟩ prog_5_method_1_code 1 (none)) from rfl))
theorem kc34 : Cond.code (mname 34) (mcode 34) (mmaxl 34) (mret 34) ∈ lw_tbl := lwc_in (l := tables_1_3) (List.mem_of_getElem? (i := 3) rfl) (List.mem_of_getElem? (i := 171) (show tables_1_3[171]? = some (Cond.code ⟨"TornFringes$Front", "bar", "(LTornFringes$Whole;)V"⟩ prog_5_method_2_code 3 (none)) from rfl))
theorem kc35 : Cond.code (mname 35) (mcode 35) (mmaxl 35) (mret 35) ∈ lw_tbl := lwc_in (l := tables_1_3) (List.mem_of_getElem? (i := 3) rfl) (List.mem_of_getElem? (i := 193) (show tables_1_3[193]? = some (Cond.code ⟨"TornFringes$Front", "gather", "(LTornFringes$Whole;)V"⟩ prog_5_method_3_code 3 (none)) from rfl))
theorem kc36 : Cond.code (mname 36) (mcode 36) (mmaxl 36) (mret 36) ∈ lw_tbl := lwc_in (l := tables_1_3) (List.mem_of_getElem? (i := 3) rfl) (List.mem_of_getElem? (i := 202) (show tables_1_3[202]? = some (Cond.code ⟨"TornFringes$Front", "spread", "(LTornFringes$Chart;LTornFringes$Lay;I)V"⟩ prog_5_method_4_code 6 (none)) from rfl))
theorem kc37 : Cond.code (mname 37) (mcode 37) (mmaxl 37) (mret 37) ∈ lw_tbl := lwc_in (l := tables_1_3) (List.mem_of_getElem? (i := 3) rfl) (List.mem_of_getElem? (i := 212) (show tables_1_3[212]? = some (Cond.code ⟨"TornFringes$Front", "offer", "(III)V"⟩ prog_5_method_5_code 4 (none)) from rfl))
theorem kc38 : Cond.code (mname 38) (mcode 38) (mmaxl 38) (mret 38) ∈ lw_tbl := lwc_in (l := tables_1_3) (List.mem_of_getElem? (i := 3) rfl) (List.mem_of_getElem? (i := 220) (show tables_1_3[220]? = some (Cond.code ⟨"TornFringes$Front", "takeBest", "()I"⟩ prog_5_method_6_code 3 (some .int)) from rfl))
theorem kc39 : Cond.code (mname 39) (mcode 39) (mmaxl 39) (mret 39) ∈ lw_tbl := lwc_in (l := tables_1_3) (List.mem_of_getElem? (i := 3) rfl) (List.mem_of_getElem? (i := 224) (show tables_1_3[224]? = some (Cond.code ⟨"TornFringes$Front", "isBetter", "(II)Z"⟩ prog_5_method_7_code 3 (some .boolean)) from rfl))
theorem kc40 : Cond.code (mname 40) (mcode 40) (mmaxl 40) (mret 40) ∈ lw_tbl := lwc_in (l := tables_1_1) (List.mem_of_getElem? (i := 1) rfl) (List.mem_of_getElem? (i := 81) (show tables_1_1[81]? = some (Cond.code ⟨"TornFringes$Joining", "<init>", "()V"⟩ prog_6_method_1_code 1 (none)) from rfl))
theorem kc41 : Cond.code (mname 41) (mcode 41) (mmaxl 41) (mret 41) ∈ lw_tbl := lwc_in (l := tables_1_2) (List.mem_of_getElem? (i := 2) rfl) (List.mem_of_getElem? (i := 183) (show tables_1_2[183]? = some (Cond.code ⟨"TornFringes$Joining", "clear", "()V"⟩ prog_6_method_2_code 1 (none)) from rfl))
theorem kc42 : Cond.code (mname 42) (mcode 42) (mmaxl 42) (mret 42) ∈ lw_tbl := lwc_in (l := tables_1_2) (List.mem_of_getElem? (i := 2) rfl) (List.mem_of_getElem? (i := 165) (show tables_1_2[165]? = some (Cond.code ⟨"TornFringes$Joining", "copyFrom", "(LTornFringes$Joining;)V"⟩ prog_6_method_3_code 2 (none)) from rfl))
theorem kc43 : Cond.code (mname 43) (mcode 43) (mmaxl 43) (mret 43) ∈ lw_tbl := lwc_in (l := tables_1_3) (List.mem_of_getElem? (i := 3) rfl) (List.mem_of_getElem? (i := 110) (show tables_1_3[110]? = some (Cond.code ⟨"TornFringes$Joining", "add", "(LTornFringes$Chart;II)V"⟩ prog_6_method_4_code 4 (none)) from rfl))
theorem kc44 : Cond.code (mname 44) (mcode 44) (mmaxl 44) (mret 44) ∈ lw_tbl := lwc_in (l := tables_1_3) (List.mem_of_getElem? (i := 3) rfl) (List.mem_of_getElem? (i := 135) (show tables_1_3[135]? = some (Cond.code ⟨"TornFringes$Joining", "cutBetween", "(LTornFringes$Chart;II)V"⟩ prog_6_method_5_code 8 (none)) from rfl))
theorem kc45 : Cond.code (mname 45) (mcode 45) (mmaxl 45) (mret 45) ∈ lw_tbl := lwc_in (l := tables_1_3) (List.mem_of_getElem? (i := 3) rfl) (List.mem_of_getElem? (i := 120) (show tables_1_3[120]? = some (Cond.code ⟨"TornFringes$Joining", "cutToBorder", "(LTornFringes$Chart;I)V"⟩ prog_6_method_6_code 6 (none)) from rfl))
theorem kc46 : Cond.code (mname 46) (mcode 46) (mmaxl 46) (mret 46) ∈ lw_tbl := lwc_in (l := tables_1_3) (List.mem_of_getElem? (i := 3) rfl) (List.mem_of_getElem? (i := 131) (show tables_1_3[131]? = some (Cond.code ⟨"TornFringes$Joining", "goAlongRow", "(LTornFringes$Chart;III)V"⟩ prog_6_method_7_code 6 (none)) from rfl))
theorem kc47 : Cond.code (mname 47) (mcode 47) (mmaxl 47) (mret 47) ∈ lw_tbl := lwc_in (l := tables_1_3) (List.mem_of_getElem? (i := 3) rfl) (List.mem_of_getElem? (i := 127) (show tables_1_3[127]? = some (Cond.code ⟨"TornFringes$Joining", "goAlongColumn", "(LTornFringes$Chart;III)V"⟩ prog_6_method_8_code 6 (none)) from rfl))
theorem kc48 : Cond.code (mname 48) (mcode 48) (mmaxl 48) (mret 48) ∈ lw_tbl := lwc_in (l := tables_1_1) (List.mem_of_getElem? (i := 1) rfl) (List.mem_of_getElem? (i := 109) (show tables_1_1[109]? = some (Cond.code ⟨"TornFringes$Lay", "<init>", "()V"⟩ prog_7_method_1_code 1 (none)) from rfl))
theorem kc49 : Cond.code (mname 49) (mcode 49) (mmaxl 49) (mret 49) ∈ lw_tbl := lwc_in (l := tables_1_2) (List.mem_of_getElem? (i := 2) rfl) (List.mem_of_getElem? (i := 188) (show tables_1_2[188]? = some (Cond.code ⟨"TornFringes$Lay", "clear", "()V"⟩ prog_7_method_2_code 1 (none)) from rfl))
theorem kc50 : Cond.code (mname 50) (mcode 50) (mmaxl 50) (mret 50) ∈ lw_tbl := lwc_in (l := tables_1_2) (List.mem_of_getElem? (i := 2) rfl) (List.mem_of_getElem? (i := 170) (show tables_1_2[170]? = some (Cond.code ⟨"TornFringes$Lay", "copyFrom", "(LTornFringes$Lay;)V"⟩ prog_7_method_3_code 2 (none)) from rfl))
theorem kc51 : Cond.code (mname 51) (mcode 51) (mmaxl 51) (mret 51) ∈ lw_tbl := lwc_in (l := tables_1_3) (List.mem_of_getElem? (i := 3) rfl) (List.mem_of_getElem? (i := 157) (show tables_1_3[157]? = some (Cond.code ⟨"TornFringes$Lay", "start", "(LTornFringes$Chart;)V"⟩ prog_7_method_4_code 2 (none)) from rfl))
theorem kc52 : Cond.code (mname 52) (mcode 52) (mmaxl 52) (mret 52) ∈ lw_tbl := lwc_in (l := tables_1_3) (List.mem_of_getElem? (i := 3) rfl) (List.mem_of_getElem? (i := 216) (show tables_1_3[216]? = some (Cond.code ⟨"TornFringes$Lay", "advance", "(LTornFringes$Chart;LTornFringes$Front;)V"⟩ prog_7_method_5_code 4 (none)) from rfl))
theorem kc53 : Cond.code (mname 53) (mcode 53) (mmaxl 53) (mret 53) ∈ lw_tbl := lwc_in (l := tables_1_3) (List.mem_of_getElem? (i := 3) rfl) (List.mem_of_getElem? (i := 228) (show tables_1_3[228]? = some (Cond.code ⟨"TornFringes$Lay", "follow", "(LTornFringes$Chart;II)V"⟩ prog_7_method_6_code 4 (none)) from rfl))
theorem kc54 : Cond.code (mname 54) (mcode 54) (mmaxl 54) (mret 54) ∈ lw_tbl := lwc_in (l := tables_1_3) (List.mem_of_getElem? (i := 3) rfl) (List.mem_of_getElem? (i := 238) (show tables_1_3[238]? = some (Cond.code ⟨"TornFringes$Lay", "openIsle", "(LTornFringes$Chart;I)V"⟩ prog_7_method_7_code 3 (none)) from rfl))
theorem kc55 : Cond.code (mname 55) (mcode 55) (mmaxl 55) (mret 55) ∈ lw_tbl := lwc_in (l := tables_1_3) (List.mem_of_getElem? (i := 3) rfl) (List.mem_of_getElem? (i := 233) (show tables_1_3[233]? = some (Cond.code ⟨"TornFringes$Lay", "bestNotLaid", "(LTornFringes$Chart;)I"⟩ prog_7_method_8_code 4 (some .int)) from rfl))
theorem kc56 : Cond.code (mname 56) (mcode 56) (mmaxl 56) (mret 56) ∈ lw_tbl := lwc_in (l := tables_1_3) (List.mem_of_getElem? (i := 3) rfl) (List.mem_of_getElem? (i := 198) (show tables_1_3[198]? = some (Cond.code ⟨"TornFringes$Lay", "isLaid", "(I)Z"⟩ prog_7_method_9_code 2 (some .boolean)) from rfl))
theorem kc57 : Cond.code (mname 57) (mcode 57) (mmaxl 57) (mret 57) ∈ lw_tbl := lwc_in (l := tables_1_4) (List.mem_of_getElem? (i := 4) rfl) (List.mem_of_getElem? (i := 26) (show tables_1_4[26]? = some (Cond.code ⟨"TornFringes$Lay", "hasIsle", "(I)Z"⟩ prog_7_method_10_code 2 (some .boolean)) from rfl))
theorem kc58 : Cond.code (mname 58) (mcode 58) (mmaxl 58) (mret 58) ∈ lw_tbl := lwc_in (l := tables_1_4) (List.mem_of_getElem? (i := 4) rfl) (List.mem_of_getElem? (i := 210) (show tables_1_4[210]? = some (Cond.code ⟨"TornFringes$Lay", "pixelsOf", "(LTornFringes$Chart;I)I"⟩ prog_7_method_11_code 5 (some .int)) from rfl))
theorem kc59 : Cond.code (mname 59) (mcode 59) (mmaxl 59) (mret 59) ∈ lw_tbl := lwc_in (l := tables_1_4) (List.mem_of_getElem? (i := 4) rfl) (List.mem_of_getElem? (i := 148) (show tables_1_4[148]? = some (Cond.code ⟨"TornFringes$Lay", "depthOf", "(I)I"⟩ prog_7_method_12_code 4 (some .int)) from rfl))
theorem kc60 : Cond.code (mname 60) (mcode 60) (mmaxl 60) (mret 60) ∈ lw_tbl := lwc_in (l := tables_1_4) (List.mem_of_getElem? (i := 4) rfl) (List.mem_of_getElem? (i := 30) (show tables_1_4[30]? = some (Cond.code ⟨"TornFringes$Lay", "canLift", "(LTornFringes$Chart;II)Z"⟩ prog_7_method_13_code 7 (some .boolean)) from rfl))
theorem kc61 : Cond.code (mname 61) (mcode 61) (mmaxl 61) (mret 61) ∈ lw_tbl := lwc_in (l := tables_1_4) (List.mem_of_getElem? (i := 4) rfl) (List.mem_of_getElem? (i := 37) (show tables_1_4[37]? = some (Cond.code ⟨"TornFringes$Lay", "raise", "(LTornFringes$Chart;II)V"⟩ prog_7_method_14_code 5 (none)) from rfl))
theorem kc62 : Cond.code (mname 62) (mcode 62) (mmaxl 62) (mret 62) ∈ lw_tbl := lwc_in (l := tables_1_5) (List.mem_of_getElem? (i := 5) rfl) (List.mem_of_getElem? (i := 0) (show tables_1_5[0]? = some (Cond.code ⟨"TornFringes$Lay", "squareSum", "(LTornFringes$Chart;I)J"⟩ prog_7_method_15_code 8 (some .long)) from rfl))
theorem kc63 : Cond.code (mname 63) (mcode 63) (mmaxl 63) (mret 63) ∈ lw_tbl := lwc_in (l := tables_1_5) (List.mem_of_getElem? (i := 5) rfl) (List.mem_of_getElem? (i := 15) (show tables_1_5[15]? = some (Cond.code ⟨"TornFringes$Lay", "lowest", "(LTornFringes$Chart;)I"⟩ prog_7_method_16_code 4 (some .int)) from rfl))
theorem kc64 : Cond.code (mname 64) (mcode 64) (mmaxl 64) (mret 64) ∈ lw_tbl := lwc_in (l := tables_1_5) (List.mem_of_getElem? (i := 5) rfl) (List.mem_of_getElem? (i := 19) (show tables_1_5[19]? = some (Cond.code ⟨"TornFringes$Lay", "highest", "(LTornFringes$Chart;)I"⟩ prog_7_method_17_code 4 (some .int)) from rfl))
theorem kc65 : Cond.code (mname 65) (mcode 65) (mmaxl 65) (mret 65) ∈ lw_tbl := lwc_in (l := tables_1_5) (List.mem_of_getElem? (i := 5) rfl) (List.mem_of_getElem? (i := 50) (show tables_1_5[50]? = some (Cond.code ⟨"TornFringes$Lay", "isPeak", "(LTornFringes$Chart;I)Z"⟩ prog_7_method_18_code 5 (some .boolean)) from rfl))
theorem kc66 : Cond.code (mname 66) (mcode 66) (mmaxl 66) (mret 66) ∈ lw_tbl := lwc_in (l := tables_1_5) (List.mem_of_getElem? (i := 5) rfl) (List.mem_of_getElem? (i := 72) (show tables_1_5[72]? = some (Cond.code ⟨"TornFringes$Lay", "otherHeights", "(LTornFringes$Chart;LTornFringes$Lay;)I"⟩ prog_7_method_19_code 5 (some .int)) from rfl))
theorem kc67 : Cond.code (mname 67) (mcode 67) (mmaxl 67) (mret 67) ∈ lw_tbl := lwc_in (l := tables_1_1) (List.mem_of_getElem? (i := 1) rfl) (List.mem_of_getElem? (i := 199) (show tables_1_1[199]? = some (Cond.code ⟨"TornFringes$Log", "<init>", "()V"⟩ prog_8_method_1_code 1 (none)) from rfl))
theorem kc68 : Cond.code (mname 68) (mcode 68) (mmaxl 68) (mret 68) ∈ lw_tbl := lwc_in (l := tables_1_5) (List.mem_of_getElem? (i := 5) rfl) (List.mem_of_getElem? (i := 110) (show tables_1_5[110]? = some (Cond.code ⟨"TornFringes$Log", "copyFrom", "(LTornFringes$Log;)V"⟩ prog_8_method_2_code 2 (none)) from rfl))
theorem kc69 : Cond.code (mname 69) (mcode 69) (mmaxl 69) (mret 69) ∈ lw_tbl := lwc_in (l := tables_1_3) (List.mem_of_getElem? (i := 3) rfl) (List.mem_of_getElem? (i := 141) (show tables_1_3[141]? = some (Cond.code ⟨"TornFringes$Log", "note", "(III)V"⟩ prog_8_method_3_code 5 (none)) from rfl))
theorem kc70 : Cond.code (mname 70) (mcode 70) (mmaxl 70) (mret 70) ∈ lw_tbl := lwc_in (l := tables_1_5) (List.mem_of_getElem? (i := 5) rfl) (List.mem_of_getElem? (i := 92) (show tables_1_5[92]? = some (Cond.code ⟨"TornFringes$Log", "has", "(I)Z"⟩ prog_8_method_4_code 2 (some .boolean)) from rfl))
theorem kc71 : Cond.code (mname 71) (mcode 71) (mmaxl 71) (mret 71) ∈ lw_tbl := lwc_in (l := tables_1_5) (List.mem_of_getElem? (i := 5) rfl) (List.mem_of_getElem? (i := 97) (show tables_1_5[97]? = some (Cond.code ⟨"TornFringes$Log", "get", "(II)I"⟩ prog_8_method_5_code 3 (some .int)) from rfl))
theorem kc72 : Cond.code (mname 72) (mcode 72) (mmaxl 72) (mret 72) ∈ lw_tbl := lwc_in (l := tables_1_1) (List.mem_of_getElem? (i := 1) rfl) (List.mem_of_getElem? (i := 235) (show tables_1_1[235]? = some (Cond.code ⟨"TornFringes$Pairing", "<init>", "()V"⟩ prog_9_method_1_code 1 (none)) from rfl))
theorem kc73 : Cond.code (mname 73) (mcode 73) (mmaxl 73) (mret 73) ∈ lw_tbl := lwc_in (l := tables_1_2) (List.mem_of_getElem? (i := 2) rfl) (List.mem_of_getElem? (i := 220) (show tables_1_2[220]? = some (Cond.code ⟨"TornFringes$Pairing", "findTorn", "(LTornFringes$Chart;)V"⟩ prog_9_method_2_code 4 (none)) from rfl))
theorem kc74 : Cond.code (mname 74) (mcode 74) (mmaxl 74) (mret 74) ∈ lw_tbl := lwc_in (l := tables_1_3) (List.mem_of_getElem? (i := 3) rfl) (List.mem_of_getElem? (i := 26) (show tables_1_3[26]? = some (Cond.code ⟨"TornFringes$Pairing", "farToTorn", "(LTornFringes$Chart;I)I"⟩ prog_9_method_3_code 5 (some .int)) from rfl))
theorem kc75 : Cond.code (mname 75) (mcode 75) (mmaxl 75) (mret 75) ∈ lw_tbl := lwc_in (l := tables_1_3) (List.mem_of_getElem? (i := 3) rfl) (List.mem_of_getElem? (i := 60) (show tables_1_3[60]? = some (Cond.code ⟨"TornFringes$Pairing", "canPair", "(LTornFringes$Chart;I)Z"⟩ prog_9_method_4_code 3 (some .boolean)) from rfl))
theorem kc76 : Cond.code (mname 76) (mcode 76) (mmaxl 76) (mret 76) ∈ lw_tbl := lwc_in (l := tables_1_3) (List.mem_of_getElem? (i := 3) rfl) (List.mem_of_getElem? (i := 65) (show tables_1_3[65]? = some (Cond.code ⟨"TornFringes$Pairing", "pair", "(LTornFringes$Chart;I)V"⟩ prog_9_method_5_code 3 (none)) from rfl))
theorem kc77 : Cond.code (mname 77) (mcode 77) (mmaxl 77) (mret 77) ∈ lw_tbl := lwc_in (l := tables_1_3) (List.mem_of_getElem? (i := 3) rfl) (List.mem_of_getElem? (i := 105) (show tables_1_3[105]? = some (Cond.code ⟨"TornFringes$Pairing", "tell", "(LTornFringes$Chart;LTornFringes$Joining;)V"⟩ prog_9_method_6_code 4 (none)) from rfl))
theorem kc78 : Cond.code (mname 78) (mcode 78) (mmaxl 78) (mret 78) ∈ lw_tbl := lwc_in (l := tables_1_3) (List.mem_of_getElem? (i := 3) rfl) (List.mem_of_getElem? (i := 69) (show tables_1_3[69]? = some (Cond.code ⟨"TornFringes$Pairing", "pairNearest", "(LTornFringes$Chart;)V"⟩ prog_9_method_7_code 4 (none)) from rfl))
theorem kc79 : Cond.code (mname 79) (mcode 79) (mmaxl 79) (mret 79) ∈ lw_tbl := lwc_in (l := tables_1_3) (List.mem_of_getElem? (i := 3) rfl) (List.mem_of_getElem? (i := 73) (show tables_1_3[73]? = some (Cond.code ⟨"TornFringes$Pairing", "pairAtFar", "(LTornFringes$Chart;II)V"⟩ prog_9_method_8_code 5 (none)) from rfl))
theorem kc80 : Cond.code (mname 80) (mcode 80) (mmaxl 80) (mret 80) ∈ lw_tbl := lwc_in (l := tables_1_3) (List.mem_of_getElem? (i := 3) rfl) (List.mem_of_getElem? (i := 82) (show tables_1_3[82]? = some (Cond.code ⟨"TornFringes$Pairing", "pairLeast", "(LTornFringes$Chart;)V"⟩ prog_9_method_9_code 5 (none)) from rfl))
theorem kc81 : Cond.code (mname 81) (mcode 81) (mmaxl 81) (mret 81) ∈ lw_tbl := lwc_in (l := tables_1_3) (List.mem_of_getElem? (i := 3) rfl) (List.mem_of_getElem? (i := 95) (show tables_1_3[95]? = some (Cond.code ⟨"TornFringes$Pairing", "leastMate", "(LTornFringes$Chart;II)I"⟩ prog_9_method_10_code 7 (some .int)) from rfl))
theorem kc82 : Cond.code (mname 82) (mcode 82) (mmaxl 82) (mret 82) ∈ lw_tbl := lwc_in (l := tables_1_3) (List.mem_of_getElem? (i := 3) rfl) (List.mem_of_getElem? (i := 98) (show tables_1_3[98]? = some (Cond.code ⟨"TornFringes$Pairing", "leastFars", "(LTornFringes$Pairing;LTornFringes$Chart;II)I"⟩ prog_9_method_11_code 9 (some .int)) from rfl))
theorem kc83 : Cond.code (mname 83) (mcode 83) (mmaxl 83) (mret 83) ∈ lw_tbl := lwc_in (l := tables_1_3) (List.mem_of_getElem? (i := 3) rfl) (List.mem_of_getElem? (i := 91) (show tables_1_3[91]? = some (Cond.code ⟨"TornFringes$Pairing", "isIn", "(II)Z"⟩ prog_9_method_12_code 2 (some .boolean)) from rfl))
theorem kc84 : Cond.code (mname 84) (mcode 84) (mmaxl 84) (mret 84) ∈ lw_tbl := lwc_in (l := tables_1_3) (List.mem_of_getElem? (i := 3) rfl) (List.mem_of_getElem? (i := 101) (show tables_1_3[101]? = some (Cond.code ⟨"TornFringes$Pairing", "without", "(II)I"⟩ prog_9_method_13_code 2 (some .int)) from rfl))
theorem kc85 : Cond.code (mname 85) (mcode 85) (mmaxl 85) (mret 85) ∈ lw_tbl := lwc_in (l := tables_1_2) (List.mem_of_getElem? (i := 2) rfl) (List.mem_of_getElem? (i := 43) (show tables_1_2[43]? = some (Cond.code ⟨"TornFringes$Seams", "<init>", "()V"⟩ prog_10_method_1_code 1 (none)) from rfl))
theorem kc86 : Cond.code (mname 86) (mcode 86) (mmaxl 86) (mret 86) ∈ lw_tbl := lwc_in (l := tables_1_4) (List.mem_of_getElem? (i := 4) rfl) (List.mem_of_getElem? (i := 50) (show tables_1_4[50]? = some (Cond.code ⟨"TornFringes$Seams", "gather", "(LTornFringes$Chart;LTornFringes$Lay;)V"⟩ prog_10_method_2_code 4 (none)) from rfl))
theorem kc87 : Cond.code (mname 87) (mcode 87) (mmaxl 87) (mret 87) ∈ lw_tbl := lwc_in (l := tables_1_4) (List.mem_of_getElem? (i := 4) rfl) (List.mem_of_getElem? (i := 58) (show tables_1_4[58]? = some (Cond.code ⟨"TornFringes$Seams", "gatherEdge", "(LTornFringes$Chart;LTornFringes$Lay;II)V"⟩ prog_10_method_3_code 8 (none)) from rfl))
theorem kc88 : Cond.code (mname 88) (mcode 88) (mmaxl 88) (mret 88) ∈ lw_tbl := lwc_in (l := tables_1_4) (List.mem_of_getElem? (i := 4) rfl) (List.mem_of_getElem? (i := 72) (show tables_1_4[72]? = some (Cond.code ⟨"TornFringes$Seams", "insert", "(II)V"⟩ prog_10_method_4_code 4 (none)) from rfl))
theorem kc89 : Cond.code (mname 89) (mcode 89) (mmaxl 89) (mret 89) ∈ lw_tbl := lwc_in (l := tables_1_4) (List.mem_of_getElem? (i := 4) rfl) (List.mem_of_getElem? (i := 62) (show tables_1_4[62]? = some (Cond.code ⟨"TornFringes$Seams", "pairOf", "(II)I"⟩ prog_10_method_5_code 2 (some .int)) from rfl))
theorem kc90 : Cond.code (mname 90) (mcode 90) (mmaxl 90) (mret 90) ∈ lw_tbl := lwc_in (l := tables_1_4) (List.mem_of_getElem? (i := 4) rfl) (List.mem_of_getElem? (i := 65) (show tables_1_4[65]? = some (Cond.code ⟨"TornFringes$Seams", "turnsLacking", "(LTornFringes$Chart;LTornFringes$Lay;II)I"⟩ prog_10_method_6_code 6 (some .int)) from rfl))
theorem kc91 : Cond.code (mname 91) (mcode 91) (mmaxl 91) (mret 91) ∈ lw_tbl := lwc_in (l := tables_1_4) (List.mem_of_getElem? (i := 4) rfl) (List.mem_of_getElem? (i := 224) (show tables_1_4[224]? = some (Cond.code ⟨"TornFringes$Seams", "findFit", "(II)V"⟩ prog_10_method_7_code 5 (none)) from rfl))
theorem kc92 : Cond.code (mname 92) (mcode 92) (mmaxl 92) (mret 92) ∈ lw_tbl := lwc_in (l := tables_1_4) (List.mem_of_getElem? (i := 4) rfl) (List.mem_of_getElem? (i := 80) (show tables_1_4[80]? = some (Cond.code ⟨"TornFringes$Seams", "endOfPair", "(II)I"⟩ prog_10_method_8_code 4 (some .int)) from rfl))
theorem kc93 : Cond.code (mname 93) (mcode 93) (mmaxl 93) (mret 93) ∈ lw_tbl := lwc_in (l := tables_1_4) (List.mem_of_getElem? (i := 4) rfl) (List.mem_of_getElem? (i := 84) (show tables_1_4[84]? = some (Cond.code ⟨"TornFringes$Seams", "fitWithin", "(III)V"⟩ prog_10_method_9_code 7 (none)) from rfl))
theorem kc94 : Cond.code (mname 94) (mcode 94) (mmaxl 94) (mret 94) ∈ lw_tbl := lwc_in (l := tables_1_4) (List.mem_of_getElem? (i := 4) rfl) (List.mem_of_getElem? (i := 87) (show tables_1_4[87]? = some (Cond.code ⟨"TornFringes$Seams", "isNearer", "(II)Z"⟩ prog_10_method_10_code 4 (some .boolean)) from rfl))
theorem kc95 : Cond.code (mname 95) (mcode 95) (mmaxl 95) (mret 95) ∈ lw_tbl := lwc_in (l := tables_1_4) (List.mem_of_getElem? (i := 4) rfl) (List.mem_of_getElem? (i := 46) (show tables_1_4[46]? = some (Cond.code ⟨"TornFringes$Seams", "uniteAll", "(LTornFringes$Chart;LTornFringes$Lay;)I"⟩ prog_10_method_11_code 8 (some .int)) from rfl))
theorem kc96 : Cond.code (mname 96) (mcode 96) (mmaxl 96) (mret 96) ∈ lw_tbl := lwc_in (l := tables_1_4) (List.mem_of_getElem? (i := 4) rfl) (List.mem_of_getElem? (i := 76) (show tables_1_4[76]? = some (Cond.code ⟨"TornFringes$Seams", "findBest", "()I"⟩ prog_10_method_12_code 6 (some .int)) from rfl))
theorem kc97 : Cond.code (mname 97) (mcode 97) (mmaxl 97) (mret 97) ∈ lw_tbl := lwc_in (l := tables_1_4) (List.mem_of_getElem? (i := 4) rfl) (List.mem_of_getElem? (i := 92) (show tables_1_4[92]? = some (Cond.code ⟨"TornFringes$Seams", "liftGroup", "(LTornFringes$Chart;LTornFringes$Lay;I)Z"⟩ prog_10_method_13_code 5 (some .boolean)) from rfl))
theorem kc98 : Cond.code (mname 98) (mcode 98) (mmaxl 98) (mret 98) ∈ lw_tbl := lwc_in (l := tables_1_4) (List.mem_of_getElem? (i := 4) rfl) (List.mem_of_getElem? (i := 98) (show tables_1_4[98]? = some (Cond.code ⟨"TornFringes$Seams", "unite", "(LTornFringes$Lay;II)V"⟩ prog_10_method_14_code 5 (none)) from rfl))
theorem kc99 : Cond.code (mname 99) (mcode 99) (mmaxl 99) (mret 99) ∈ lw_tbl := lwc_in (l := tables_1_1) (List.mem_of_getElem? (i := 1) rfl) (List.mem_of_getElem? (i := 213) (show tables_1_1[213]? = some (Cond.code ⟨"TornFringes$Tape", "<init>", "()V"⟩ prog_11_method_1_code 1 (none)) from rfl))
theorem kc100 : Cond.code (mname 100) (mcode 100) (mmaxl 100) (mret 100) ∈ lw_tbl := lwc_in (l := tables_1_4) (List.mem_of_getElem? (i := 4) rfl) (List.mem_of_getElem? (i := 106) (show tables_1_4[106]? = some (Cond.code ⟨"TornFringes$Tape", "add", "(I)V"⟩ prog_11_method_2_code 3 (none)) from rfl))
theorem kc101 : Cond.code (mname 101) (mcode 101) (mmaxl 101) (mret 101) ∈ lw_tbl := lwc_in (l := tables_1_4) (List.mem_of_getElem? (i := 4) rfl) (List.mem_of_getElem? (i := 118) (show tables_1_4[118]? = some (Cond.code ⟨"TornFringes$Tape", "findFault", "()I"⟩ prog_11_method_3_code 5 (some .int)) from rfl))
theorem kc102 : Cond.code (mname 102) (mcode 102) (mmaxl 102) (mret 102) ∈ lw_tbl := lwc_in (l := tables_1_4) (List.mem_of_getElem? (i := 4) rfl) (List.mem_of_getElem? (i := 121) (show tables_1_4[121]? = some (Cond.code ⟨"TornFringes$Tape", "canEnd", "(II)Z"⟩ prog_11_method_4_code 2 (some .boolean)) from rfl))
theorem kc103 : Cond.code (mname 103) (mcode 103) (mmaxl 103) (mret 103) ∈ lw_tbl := lwc_in (l := tables_1_4) (List.mem_of_getElem? (i := 4) rfl) (List.mem_of_getElem? (i := 125) (show tables_1_4[125]? = some (Cond.code ⟨"TornFringes$Tape", "canStand", "(II)Z"⟩ prog_11_method_5_code 4 (some .boolean)) from rfl))
theorem kc104 : Cond.code (mname 104) (mcode 104) (mmaxl 104) (mret 104) ∈ lw_tbl := lwc_in (l := tables_1_4) (List.mem_of_getElem? (i := 4) rfl) (List.mem_of_getElem? (i := 128) (show tables_1_4[128]? = some (Cond.code ⟨"TornFringes$Tape", "digitOf", "(I)I"⟩ prog_11_method_6_code 1 (some .int)) from rfl))
theorem kc105 : Cond.code (mname 105) (mcode 105) (mmaxl 105) (mret 105) ∈ lw_tbl := lwc_in (l := tables_1_4) (List.mem_of_getElem? (i := 4) rfl) (List.mem_of_getElem? (i := 132) (show tables_1_4[132]? = some (Cond.code ⟨"TornFringes$Tape", "tell", "(LTornFringes$Chart;)V"⟩ prog_11_method_7_code 4 (none)) from rfl))
theorem kc106 : Cond.code (mname 106) (mcode 106) (mmaxl 106) (mret 106) ∈ lw_tbl := lwc_in (l := tables_1_1) (List.mem_of_getElem? (i := 1) rfl) (List.mem_of_getElem? (i := 75) (show tables_1_1[75]? = some (Cond.code ⟨"TornFringes$Whole", "<init>", "(LTornFringes$Chart;)V"⟩ prog_12_method_1_code 2 (none)) from rfl))
theorem kc107 : Cond.code (mname 107) (mcode 107) (mmaxl 107) (mret 107) ∈ lw_tbl := lwc_in (l := tables_1_2) (List.mem_of_getElem? (i := 2) rfl) (List.mem_of_getElem? (i := 154) (show tables_1_2[154]? = some (Cond.code ⟨"TornFringes$Whole", "copyFrom", "(LTornFringes$Whole;)V"⟩ prog_12_method_2_code 2 (none)) from rfl))
theorem kc108 : Cond.code (mname 108) (mcode 108) (mmaxl 108) (mret 108) ∈ lw_tbl := lwc_in (l := tables_1_2) (List.mem_of_getElem? (i := 2) rfl) (List.mem_of_getElem? (i := 178) (show tables_1_2[178]? = some (Cond.code ⟨"TornFringes$Whole", "tellMap", "(II)V"⟩ prog_12_method_3_code 3 (none)) from rfl))
theorem kc109 : Cond.code (mname 109) (mcode 109) (mmaxl 109) (mret 109) ∈ lw_tbl := lwc_in (l := tables_1_3) (List.mem_of_getElem? (i := 3) rfl) (List.mem_of_getElem? (i := 189) (show tables_1_3[189]? = some (Cond.code ⟨"TornFringes$Whole", "isCut", "(I)Z"⟩ prog_12_method_4_code 2 (some .boolean)) from rfl))
theorem kc110 : Cond.code (mname 110) (mcode 110) (mmaxl 110) (mret 110) ∈ lw_tbl := lwc_in (l := tables_1_5) (List.mem_of_getElem? (i := 5) rfl) (List.mem_of_getElem? (i := 127) (show tables_1_5[127]? = some (Cond.code ⟨"TornFringes$Whole", "countCut", "()I"⟩ prog_12_method_5_code 3 (some .int)) from rfl))
theorem kc111 : Cond.code (mname 111) (mcode 111) (mmaxl 111) (mret 111) ∈ lw_tbl := lwc_in (l := tables_1_4) (List.mem_of_getElem? (i := 4) rfl) (List.mem_of_getElem? (i := 9) (show tables_1_4[9]? = some (Cond.code ⟨"TornFringes$Whole", "isJump", "(I)Z"⟩ prog_12_method_6_code 2 (some .boolean)) from rfl))
theorem kc112 : Cond.code (mname 112) (mcode 112) (mmaxl 112) (mret 112) ∈ lw_tbl := lwc_in (l := tables_1_4) (List.mem_of_getElem? (i := 4) rfl) (List.mem_of_getElem? (i := 167) (show tables_1_4[167]? = some (Cond.code ⟨"TornFringes$Whole", "isTear", "(I)Z"⟩ prog_12_method_7_code 2 (some .boolean)) from rfl))
theorem kc113 : Cond.code (mname 113) (mcode 113) (mmaxl 113) (mret 113) ∈ lw_tbl := lwc_in (l := tables_1_4) (List.mem_of_getElem? (i := 4) rfl) (List.mem_of_getElem? (i := 14) (show tables_1_4[14]? = some (Cond.code ⟨"TornFringes$Whole", "differs", "(I)Z"⟩ prog_12_method_8_code 4 (some .boolean)) from rfl))
theorem kc114 : Cond.code (mname 114) (mcode 114) (mmaxl 114) (mret 114) ∈ lw_tbl := lwc_in (l := tables_1_4) (List.mem_of_getElem? (i := 4) rfl) (List.mem_of_getElem? (i := 3) (show tables_1_4[3]? = some (Cond.code ⟨"TornFringes$Whole", "countJumps", "()I"⟩ prog_12_method_9_code 3 (some .int)) from rfl))
theorem kc115 : Cond.code (mname 115) (mcode 115) (mmaxl 115) (mret 115) ∈ lw_tbl := lwc_in (l := tables_1_5) (List.mem_of_getElem? (i := 5) rfl) (List.mem_of_getElem? (i := 67) (show tables_1_5[67]? = some (Cond.code ⟨"TornFringes$Whole", "countTears", "()I"⟩ prog_12_method_10_code 3 (some .int)) from rfl))
theorem kc116 : Cond.code (mname 116) (mcode 116) (mmaxl 116) (mret 116) ∈ lw_tbl := lwc_in (l := tables_1_4) (List.mem_of_getElem? (i := 4) rfl) (List.mem_of_getElem? (i := 214) (show tables_1_4[214]? = some (Cond.code ⟨"TornFringes$Whole", "edgesOutOf", "(I)I"⟩ prog_12_method_11_code 6 (some .int)) from rfl))
theorem kc117 : Cond.code (mname 117) (mcode 117) (mmaxl 117) (mret 117) ∈ lw_tbl := lwc_in (l := tables_1_1) (List.mem_of_getElem? (i := 1) rfl) (List.mem_of_getElem? (i := 21) (show tables_1_1[21]? = some (Cond.code ⟨"TornFringes", "<init>", "()V"⟩ prog_1_method_1_code 1 (none)) from rfl))
theorem kc118 : Cond.code (mname 118) (mcode 118) (mmaxl 118) (mret 118) ∈ lw_tbl := lwc_in (l := tables_1_2) (List.mem_of_getElem? (i := 2) rfl) (List.mem_of_getElem? (i := 140) (show tables_1_2[140]? = some (Cond.code ⟨"TornFringes", "size", "(II)Z"⟩ prog_1_method_2_code 3 (some .boolean)) from rfl))
theorem kc119 : Cond.code (mname 119) (mcode 119) (mmaxl 119) (mret 119) ∈ lw_tbl := lwc_in (l := tables_1_2) (List.mem_of_getElem? (i := 2) rfl) (List.mem_of_getElem? (i := 192) (show tables_1_2[192]? = some (Cond.code ⟨"TornFringes", "phase", "(II)I"⟩ prog_1_method_3_code 3 (some .int)) from rfl))
theorem kc120 : Cond.code (mname 120) (mcode 120) (mmaxl 120) (mret 120) ∈ lw_tbl := lwc_in (l := tables_1_2) (List.mem_of_getElem? (i := 2) rfl) (List.mem_of_getElem? (i := 208) (show tables_1_2[208]? = some (Cond.code ⟨"TornFringes", "hide", "(IZ)Z"⟩ prog_1_method_4_code 3 (some .boolean)) from rfl))
theorem kc121 : Cond.code (mname 121) (mcode 121) (mmaxl 121) (mret 121) ∈ lw_tbl := lwc_in (l := tables_1_2) (List.mem_of_getElem? (i := 2) rfl) (List.mem_of_getElem? (i := 212) (show tables_1_2[212]? = some (Cond.code ⟨"TornFringes", "grade", "(II)Z"⟩ prog_1_method_5_code 3 (some .boolean)) from rfl))
theorem kc122 : Cond.code (mname 122) (mcode 122) (mmaxl 122) (mret 122) ∈ lw_tbl := lwc_in (l := tables_1_2) (List.mem_of_getElem? (i := 2) rfl) (List.mem_of_getElem? (i := 216) (show tables_1_2[216]? = some (Cond.code ⟨"TornFringes", "grades", "(I)I"⟩ prog_1_method_6_code 4 (some .int)) from rfl))
theorem kc123 : Cond.code (mname 123) (mcode 123) (mmaxl 123) (mret 123) ∈ lw_tbl := lwc_in (l := tables_1_3) (List.mem_of_getElem? (i := 3) rfl) (List.mem_of_getElem? (i := 36) (show tables_1_3[36]? = some (Cond.code ⟨"TornFringes", "ramp", "(II)Z"⟩ prog_1_method_7_code 5 (some .boolean)) from rfl))
theorem kc124 : Cond.code (mname 124) (mcode 124) (mmaxl 124) (mret 124) ∈ lw_tbl := lwc_in (l := tables_1_3) (List.mem_of_getElem? (i := 3) rfl) (List.mem_of_getElem? (i := 42) (show tables_1_3[42]? = some (Cond.code ⟨"TornFringes", "noise", "(I)Z"⟩ prog_1_method_8_code 5 (some .boolean)) from rfl))
theorem kc125 : Cond.code (mname 125) (mcode 125) (mmaxl 125) (mret 125) ∈ lw_tbl := lwc_in (l := tables_1_3) (List.mem_of_getElem? (i := 3) rfl) (List.mem_of_getElem? (i := 52) (show tables_1_3[52]? = some (Cond.code ⟨"TornFringes", "state", "(I)I"⟩ prog_1_method_9_code 3 (some .int)) from rfl))
theorem kc126 : Cond.code (mname 126) (mcode 126) (mmaxl 126) (mret 126) ∈ lw_tbl := lwc_in (l := tables_1_3) (List.mem_of_getElem? (i := 3) rfl) (List.mem_of_getElem? (i := 56) (show tables_1_3[56]? = some (Cond.code ⟨"TornFringes", "join", "(I)I"⟩ prog_1_method_10_code 2 (some .int)) from rfl))
theorem kc127 : Cond.code (mname 127) (mcode 127) (mmaxl 127) (mret 127) ∈ lw_tbl := lwc_in (l := tables_1_3) (List.mem_of_getElem? (i := 3) rfl) (List.mem_of_getElem? (i := 145) (show tables_1_3[145]? = some (Cond.code ⟨"TornFringes", "cut", "(IZ)Z"⟩ prog_1_method_11_code 3 (some .boolean)) from rfl))
theorem kc128 : Cond.code (mname 128) (mcode 128) (mmaxl 128) (mret 128) ∈ lw_tbl := lwc_in (l := tables_1_3) (List.mem_of_getElem? (i := 3) rfl) (List.mem_of_getElem? (i := 153) (show tables_1_3[153]? = some (Cond.code ⟨"TornFringes", "begin", "()I"⟩ prog_1_method_12_code 1 (some .int)) from rfl))
theorem kc129 : Cond.code (mname 129) (mcode 129) (mmaxl 129) (mret 129) ∈ lw_tbl := lwc_in (l := tables_1_3) (List.mem_of_getElem? (i := 3) rfl) (List.mem_of_getElem? (i := 167) (show tables_1_3[167]? = some (Cond.code ⟨"TornFringes", "step", "(I)I"⟩ prog_1_method_13_code 4 (some .int)) from rfl))
theorem kc130 : Cond.code (mname 130) (mcode 130) (mmaxl 130) (mret 130) ∈ lw_tbl := lwc_in (l := tables_1_4) (List.mem_of_getElem? (i := 4) rfl) (List.mem_of_getElem? (i := 22) (show tables_1_4[22]? = some (Cond.code ⟨"TornFringes", "lift", "(II)Z"⟩ prog_1_method_14_code 3 (some .boolean)) from rfl))
theorem kc131 : Cond.code (mname 131) (mcode 131) (mmaxl 131) (mret 131) ∈ lw_tbl := lwc_in (l := tables_1_4) (List.mem_of_getElem? (i := 4) rfl) (List.mem_of_getElem? (i := 41) (show tables_1_4[41]? = some (Cond.code ⟨"TornFringes", "settle", "()I"⟩ prog_1_method_15_code 2 (some .int)) from rfl))
theorem kc132 : Cond.code (mname 132) (mcode 132) (mmaxl 132) (mret 132) ∈ lw_tbl := lwc_in (l := tables_1_4) (List.mem_of_getElem? (i := 4) rfl) (List.mem_of_getElem? (i := 102) (show tables_1_4[102]? = some (Cond.code ⟨"TornFringes", "feed", "(IIIII)I"⟩ prog_1_method_16_code 6 (some .int)) from rfl))
theorem kc133 : Cond.code (mname 133) (mcode 133) (mmaxl 133) (mret 133) ∈ lw_tbl := lwc_in (l := tables_1_4) (List.mem_of_getElem? (i := 4) rfl) (List.mem_of_getElem? (i := 110) (show tables_1_4[110]? = some (Cond.code ⟨"TornFringes", "end", "(I)Z"⟩ prog_1_method_17_code 2 (some .boolean)) from rfl))
theorem kc134 : Cond.code (mname 134) (mcode 134) (mmaxl 134) (mret 134) ∈ lw_tbl := lwc_in (l := tables_1_4) (List.mem_of_getElem? (i := 4) rfl) (List.mem_of_getElem? (i := 114) (show tables_1_4[114]? = some (Cond.code ⟨"TornFringes", "text", "()I"⟩ prog_1_method_18_code 1 (some .int)) from rfl))
theorem kc135 : Cond.code (mname 135) (mcode 135) (mmaxl 135) (mret 135) ∈ lw_tbl := lwc_in (l := tables_1_4) (List.mem_of_getElem? (i := 4) rfl) (List.mem_of_getElem? (i := 139) (show tables_1_4[139]? = some (Cond.code ⟨"TornFringes", "fault", "()I"⟩ prog_1_method_19_code 1 (some .int)) from rfl))
theorem kc136 : Cond.code (mname 136) (mcode 136) (mmaxl 136) (mret 136) ∈ lw_tbl := lwc_in (l := tables_1_4) (List.mem_of_getElem? (i := 4) rfl) (List.mem_of_getElem? (i := 143) (show tables_1_4[143]? = some (Cond.code ⟨"TornFringes", "pixel", "(II)I"⟩ prog_1_method_20_code 4 (some .int)) from rfl))
theorem kc137 : Cond.code (mname 137) (mcode 137) (mmaxl 137) (mret 137) ∈ lw_tbl := lwc_in (l := tables_1_4) (List.mem_of_getElem? (i := 4) rfl) (List.mem_of_getElem? (i := 152) (show tables_1_4[152]? = some (Cond.code ⟨"TornFringes", "height", "(I)I"⟩ prog_1_method_21_code 2 (some .int)) from rfl))
theorem kc138 : Cond.code (mname 138) (mcode 138) (mmaxl 138) (mret 138) ∈ lw_tbl := lwc_in (l := tables_1_4) (List.mem_of_getElem? (i := 4) rfl) (List.mem_of_getElem? (i := 157) (show tables_1_4[157]? = some (Cond.code ⟨"TornFringes", "edge", "(II)I"⟩ prog_1_method_22_code 4 (some .int)) from rfl))
theorem kc139 : Cond.code (mname 139) (mcode 139) (mmaxl 139) (mret 139) ∈ lw_tbl := lwc_in (l := tables_1_4) (List.mem_of_getElem? (i := 4) rfl) (List.mem_of_getElem? (i := 173) (show tables_1_4[173]? = some (Cond.code ⟨"TornFringes", "charge", "(I)I"⟩ prog_1_method_23_code 2 (some .int)) from rfl))
theorem kc140 : Cond.code (mname 140) (mcode 140) (mmaxl 140) (mret 140) ∈ lw_tbl := lwc_in (l := tables_1_4) (List.mem_of_getElem? (i := 4) rfl) (List.mem_of_getElem? (i := 179) (show tables_1_4[179]? = some (Cond.code ⟨"TornFringes", "torn", "(I)I"⟩ prog_1_method_24_code 2 (some .int)) from rfl))
theorem kc141 : Cond.code (mname 141) (mcode 141) (mmaxl 141) (mret 141) ∈ lw_tbl := lwc_in (l := tables_1_4) (List.mem_of_getElem? (i := 4) rfl) (List.mem_of_getElem? (i := 183) (show tables_1_4[183]? = some (Cond.code ⟨"TornFringes", "far", "(II)I"⟩ prog_1_method_25_code 3 (some .int)) from rfl))
theorem kc142 : Cond.code (mname 142) (mcode 142) (mmaxl 142) (mret 142) ∈ lw_tbl := lwc_in (l := tables_1_4) (List.mem_of_getElem? (i := 4) rfl) (List.mem_of_getElem? (i := 189) (show tables_1_4[189]? = some (Cond.code ⟨"TornFringes", "joined", "(II)I"⟩ prog_1_method_26_code 4 (some .int)) from rfl))
theorem kc143 : Cond.code (mname 143) (mcode 143) (mmaxl 143) (mret 143) ∈ lw_tbl := lwc_in (l := tables_1_4) (List.mem_of_getElem? (i := 4) rfl) (List.mem_of_getElem? (i := 194) (show tables_1_4[194]? = some (Cond.code ⟨"TornFringes", "loop", "(IIII)I"⟩ prog_1_method_27_code 6 (some .int)) from rfl))
theorem kc144 : Cond.code (mname 144) (mcode 144) (mmaxl 144) (mret 144) ∈ lw_tbl := lwc_in (l := tables_1_4) (List.mem_of_getElem? (i := 4) rfl) (List.mem_of_getElem? (i := 206) (show tables_1_4[206]? = some (Cond.code ⟨"TornFringes", "island", "(II)I"⟩ prog_1_method_28_code 3 (some .int)) from rfl))
theorem kc145 : Cond.code (mname 145) (mcode 145) (mmaxl 145) (mret 145) ∈ lw_tbl := lwc_in (l := tables_1_4) (List.mem_of_getElem? (i := 4) rfl) (List.mem_of_getElem? (i := 218) (show tables_1_4[218]? = some (Cond.code ⟨"TornFringes", "fit", "(III)I"⟩ prog_1_method_29_code 4 (some .int)) from rfl))
theorem kc146 : Cond.code (mname 146) (mcode 146) (mmaxl 146) (mret 146) ∈ lw_tbl := lwc_in (l := tables_1_4) (List.mem_of_getElem? (i := 4) rfl) (List.mem_of_getElem? (i := 230) (show tables_1_4[230]? = some (Cond.code ⟨"TornFringes", "sum", "(I)J"⟩ prog_1_method_30_code 5 (some .long)) from rfl))
theorem kc147 : Cond.code (mname 147) (mcode 147) (mmaxl 147) (mret 147) ∈ lw_tbl := lwc_in (l := tables_1_4) (List.mem_of_getElem? (i := 4) rfl) (List.mem_of_getElem? (i := 235) (show tables_1_4[235]? = some (Cond.code ⟨"TornFringes", "power", "(IJ)J"⟩ prog_1_method_31_code 6 (some .long)) from rfl))
theorem kc148 : Cond.code (mname 148) (mcode 148) (mmaxl 148) (mret 148) ∈ lw_tbl := lwc_in (l := tables_1_5) (List.mem_of_getElem? (i := 5) rfl) (List.mem_of_getElem? (i := 11) (show tables_1_5[11]? = some (Cond.code ⟨"TornFringes", "range", "(I)I"⟩ prog_1_method_32_code 4 (some .int)) from rfl))
theorem kc149 : Cond.code (mname 149) (mcode 149) (mmaxl 149) (mret 149) ∈ lw_tbl := lwc_in (l := tables_1_5) (List.mem_of_getElem? (i := 5) rfl) (List.mem_of_getElem? (i := 23) (show tables_1_5[23]? = some (Cond.code ⟨"TornFringes", "between", "(II)I"⟩ prog_1_method_33_code 5 (some .int)) from rfl))
theorem kc150 : Cond.code (mname 150) (mcode 150) (mmaxl 150) (mret 150) ∈ lw_tbl := lwc_in (l := tables_1_5) (List.mem_of_getElem? (i := 5) rfl) (List.mem_of_getElem? (i := 27) (show tables_1_5[27]? = some (Cond.code ⟨"TornFringes", "areas", "(II)I"⟩ prog_1_method_34_code 3 (some .int)) from rfl))
theorem kc151 : Cond.code (mname 151) (mcode 151) (mmaxl 151) (mret 151) ∈ lw_tbl := lwc_in (l := tables_1_5) (List.mem_of_getElem? (i := 5) rfl) (List.mem_of_getElem? (i := 46) (show tables_1_5[46]? = some (Cond.code ⟨"TornFringes", "peak", "(I)I"⟩ prog_1_method_35_code 4 (some .int)) from rfl))
theorem kc152 : Cond.code (mname 152) (mcode 152) (mmaxl 152) (mret 152) ∈ lw_tbl := lwc_in (l := tables_1_5) (List.mem_of_getElem? (i := 5) rfl) (List.mem_of_getElem? (i := 55) (show tables_1_5[55]? = some (Cond.code ⟨"TornFringes", "way", "(II)I"⟩ prog_1_method_36_code 5 (some .int)) from rfl))
theorem kc153 : Cond.code (mname 153) (mcode 153) (mmaxl 153) (mret 153) ∈ lw_tbl := lwc_in (l := tables_1_5) (List.mem_of_getElem? (i := 5) rfl) (List.mem_of_getElem? (i := 59) (show tables_1_5[59]? = some (Cond.code ⟨"TornFringes", "would", "(II)I"⟩ prog_1_method_37_code 3 (some .int)) from rfl))
theorem kc154 : Cond.code (mname 154) (mcode 154) (mmaxl 154) (mret 154) ∈ lw_tbl := lwc_in (l := tables_1_5) (List.mem_of_getElem? (i := 5) rfl) (List.mem_of_getElem? (i := 76) (show tables_1_5[76]? = some (Cond.code ⟨"TornFringes", "apart", "(I)I"⟩ prog_1_method_38_code 2 (some .int)) from rfl))
theorem kc155 : Cond.code (mname 155) (mcode 155) (mmaxl 155) (mret 155) ∈ lw_tbl := lwc_in (l := tables_1_5) (List.mem_of_getElem? (i := 5) rfl) (List.mem_of_getElem? (i := 80) (show tables_1_5[80]? = some (Cond.code ⟨"TornFringes", "undo", "()I"⟩ prog_1_method_39_code 1 (some .int)) from rfl))
theorem kc156 : Cond.code (mname 156) (mcode 156) (mmaxl 156) (mret 156) ∈ lw_tbl := lwc_in (l := tables_1_5) (List.mem_of_getElem? (i := 5) rfl) (List.mem_of_getElem? (i := 88) (show tables_1_5[88]? = some (Cond.code ⟨"TornFringes", "log", "(II)I"⟩ prog_1_method_40_code 3 (some .int)) from rfl))
theorem kc157 : Cond.code (mname 157) (mcode 157) (mmaxl 157) (mret 157) ∈ lw_tbl := lwc_in (l := tables_1_5) (List.mem_of_getElem? (i := 5) rfl) (List.mem_of_getElem? (i := 101) (show tables_1_5[101]? = some (Cond.code ⟨"TornFringes", "image", "(Z)Z"⟩ prog_1_method_41_code 2 (some .boolean)) from rfl))
theorem kc158 : Cond.code (mname 158) (mcode 158) (mmaxl 158) (mret 158) ∈ lw_tbl := lwc_in (l := tables_1_5) (List.mem_of_getElem? (i := 5) rfl) (List.mem_of_getElem? (i := 115) (show tables_1_5[115]? = some (Cond.code ⟨"TornFringes", "look", "(I)I"⟩ prog_1_method_42_code 2 (some .int)) from rfl))
theorem kc159 : Cond.code (mname 159) (mcode 159) (mmaxl 159) (mret 159) ∈ lw_tbl := lwc_in (l := tables_1_2) (List.mem_of_getElem? (i := 2) rfl) (List.mem_of_getElem? (i := 143) (show tables_1_2[143]? = some (Cond.code ⟨"TornFringes", "isSide", "(I)Z"⟩ prog_1_method_43_code 1 (some .boolean)) from rfl))
theorem kc160 : Cond.code (mname 160) (mcode 160) (mmaxl 160) (mret 160) ∈ lw_tbl := lwc_in (l := tables_1_3) (List.mem_of_getElem? (i := 3) rfl) (List.mem_of_getElem? (i := 46) (show tables_1_3[46]? = some (Cond.code ⟨"TornFringes", "draw", "(I)I"⟩ prog_1_method_44_code 2 (some .int)) from rfl))
theorem kc161 : Cond.code (mname 161) (mcode 161) (mmaxl 161) (mret 161) ∈ lw_tbl := lwc_in (l := tables_1_3) (List.mem_of_getElem? (i := 3) rfl) (List.mem_of_getElem? (i := 8) (show tables_1_3[8]? = some (Cond.code ⟨"TornFringes", "gradeBy", "(II)I"⟩ prog_1_method_45_code 3 (some .int)) from rfl))
theorem kc162 : Cond.code (mname 162) (mcode 162) (mmaxl 162) (mret 162) ∈ lw_tbl := lwc_in (l := tables_1_5) (List.mem_of_getElem? (i := 5) rfl) (List.mem_of_getElem? (i := 63) (show tables_1_5[63]? = some (Cond.code ⟨"TornFringes", "floodInThought", "()V"⟩ prog_1_method_46_code 2 (none)) from rfl))
theorem kc163 : Cond.code (mname 163) (mcode 163) (mmaxl 163) (mret 163) ∈ lw_tbl := lwc_in (l := tables_1_5) (List.mem_of_getElem? (i := 5) rfl) (List.mem_of_getElem? (i := 105) (show tables_1_5[105]? = some (Cond.code ⟨"TornFringes", "takeImage", "()V"⟩ prog_1_method_47_code 1 (none)) from rfl))
theorem kc164 : Cond.code (mname 164) (mcode 164) (mmaxl 164) (mret 164) ∈ lw_tbl := lwc_in (l := tables_1_5) (List.mem_of_getElem? (i := 5) rfl) (List.mem_of_getElem? (i := 132) (show tables_1_5[132]? = some (Cond.code ⟨"TornFringesModel", "<init>", "()V"⟩ prog_14_method_1_code 1 (none)) from rfl))
theorem kc165 : Cond.code (mname 165) (mcode 165) (mmaxl 165) (mret 165) ∈ lw_tbl := lwc_in (l := tables_1_5) (List.mem_of_getElem? (i := 5) rfl) (List.mem_of_getElem? (i := 234) (show tables_1_5[234]? = some (Cond.code ⟨"TornFringesModel", "isIn", "(III)Z"⟩ prog_14_method_3_code 4 (some .boolean)) from rfl))
theorem kc166 : Cond.code (mname 166) (mcode 166) (mmaxl 166) (mret 166) ∈ lw_tbl := lwc_in (l := tables_1_6) (List.mem_of_getElem? (i := 6) rfl) (List.mem_of_getElem? (i := 18) (show tables_1_6[18]? = some (Cond.code ⟨"TornFringesModel", "rows", "()I"⟩ prog_14_method_4_code 1 (some .int)) from rfl))
theorem kc167 : Cond.code (mname 167) (mcode 167) (mmaxl 167) (mret 167) ∈ lw_tbl := lwc_in (l := tables_1_6) (List.mem_of_getElem? (i := 6) rfl) (List.mem_of_getElem? (i := 22) (show tables_1_6[22]? = some (Cond.code ⟨"TornFringesModel", "cols", "()I"⟩ prog_14_method_5_code 1 (some .int)) from rfl))
theorem kc168 : Cond.code (mname 168) (mcode 168) (mmaxl 168) (mret 168) ∈ lw_tbl := lwc_in (l := tables_1_6) (List.mem_of_getElem? (i := 6) rfl) (List.mem_of_getElem? (i := 14) (show tables_1_6[14]? = some (Cond.code ⟨"TornFringesModel", "many", "()I"⟩ prog_14_method_6_code 1 (some .int)) from rfl))
theorem kc169 : Cond.code (mname 169) (mcode 169) (mmaxl 169) (mret 169) ∈ lw_tbl := lwc_in (l := tables_1_6) (List.mem_of_getElem? (i := 6) rfl) (List.mem_of_getElem? (i := 10) (show tables_1_6[10]? = some (Cond.code ⟨"TornFringesModel", "isPixel", "(I)Z"⟩ prog_14_method_7_code 2 (some .boolean)) from rfl))
theorem kc170 : Cond.code (mname 170) (mcode 170) (mmaxl 170) (mret 170) ∈ lw_tbl := lwc_in (l := tables_1_6) (List.mem_of_getElem? (i := 6) rfl) (List.mem_of_getElem? (i := 39) (show tables_1_6[39]? = some (Cond.code ⟨"TornFringesModel", "phaseOf", "(I)I"⟩ prog_14_method_8_code 2 (some .int)) from rfl))
theorem kc171 : Cond.code (mname 171) (mcode 171) (mmaxl 171) (mret 171) ∈ lw_tbl := lwc_in (l := tables_1_6) (List.mem_of_getElem? (i := 6) rfl) (List.mem_of_getElem? (i := 226) (show tables_1_6[226]? = some (Cond.code ⟨"TornFringesModel", "gradeOf", "(I)I"⟩ prog_14_method_9_code 2 (some .int)) from rfl))
theorem kc172 : Cond.code (mname 172) (mcode 172) (mmaxl 172) (mret 172) ∈ lw_tbl := lwc_in (l := tables_1_6) (List.mem_of_getElem? (i := 6) rfl) (List.mem_of_getElem? (i := 47) (show tables_1_6[47]? = some (Cond.code ⟨"TornFringesModel", "isHidden", "(I)Z"⟩ prog_14_method_10_code 2 (some .boolean)) from rfl))
theorem kc173 : Cond.code (mname 173) (mcode 173) (mmaxl 173) (mret 173) ∈ lw_tbl := lwc_in (l := tables_1_6) (List.mem_of_getElem? (i := 6) rfl) (List.mem_of_getElem? (i := 190) (show tables_1_6[190]? = some (Cond.code ⟨"TornFringesModel", "isLaid", "(I)Z"⟩ prog_14_method_11_code 2 (some .boolean)) from rfl))
theorem kc174 : Cond.code (mname 174) (mcode 174) (mmaxl 174) (mret 174) ∈ lw_tbl := lwc_in (l := tables_1_6) (List.mem_of_getElem? (i := 6) rfl) (List.mem_of_getElem? (i := 71) (show tables_1_6[71]? = some (Cond.code ⟨"TornFringesModel", "rowOf", "(I)I"⟩ prog_14_method_12_code 2 (some .int)) from rfl))
theorem kc175 : Cond.code (mname 175) (mcode 175) (mmaxl 175) (mret 175) ∈ lw_tbl := lwc_in (l := tables_1_6) (List.mem_of_getElem? (i := 6) rfl) (List.mem_of_getElem? (i := 67) (show tables_1_6[67]? = some (Cond.code ⟨"TornFringesModel", "colOf", "(I)I"⟩ prog_14_method_13_code 2 (some .int)) from rfl))
theorem kc176 : Cond.code (mname 176) (mcode 176) (mmaxl 176) (mret 176) ∈ lw_tbl := lwc_in (l := tables_1_6) (List.mem_of_getElem? (i := 6) rfl) (List.mem_of_getElem? (i := 79) (show tables_1_6[79]? = some (Cond.code ⟨"TornFringesModel", "abs", "(I)I"⟩ prog_14_method_14_code 2 (some .int)) from rfl))
theorem kc177 : Cond.code (mname 177) (mcode 177) (mmaxl 177) (mret 177) ∈ lw_tbl := lwc_in (l := tables_1_6) (List.mem_of_getElem? (i := 6) rfl) (List.mem_of_getElem? (i := 34) (show tables_1_6[34]? = some (Cond.code ⟨"TornFringesModel", "wrapped", "(J)I"⟩ prog_14_method_15_code 4 (some .int)) from rfl))
theorem kc178 : Cond.code (mname 178) (mcode 178) (mmaxl 178) (mret 178) ∈ lw_tbl := lwc_in (l := tables_1_6) (List.mem_of_getElem? (i := 6) rfl) (List.mem_of_getElem? (i := 75) (show tables_1_6[75]? = some (Cond.code ⟨"TornFringesModel", "stepOf", "(II)I"⟩ prog_14_method_16_code 3 (some .int)) from rfl))
theorem kc179 : Cond.code (mname 179) (mcode 179) (mmaxl 179) (mret 179) ∈ lw_tbl := lwc_in (l := tables_1_6) (List.mem_of_getElem? (i := 6) rfl) (List.mem_of_getElem? (i := 178) (show tables_1_6[178]? = some (Cond.code ⟨"TornFringesModel", "isEdge", "(I)Z"⟩ prog_14_method_17_code 2 (some .boolean)) from rfl))
theorem kc180 : Cond.code (mname 180) (mcode 180) (mmaxl 180) (mret 180) ∈ lw_tbl := lwc_in (l := tables_1_6) (List.mem_of_getElem? (i := 6) rfl) (List.mem_of_getElem? (i := 210) (show tables_1_6[210]? = some (Cond.code ⟨"TornFringesModel", "lesser", "(I)I"⟩ prog_14_method_18_code 2 (some .int)) from rfl))
theorem kc181 : Cond.code (mname 181) (mcode 181) (mmaxl 181) (mret 181) ∈ lw_tbl := lwc_in (l := tables_1_6) (List.mem_of_getElem? (i := 6) rfl) (List.mem_of_getElem? (i := 214) (show tables_1_6[214]? = some (Cond.code ⟨"TornFringesModel", "greater", "(I)I"⟩ prog_14_method_19_code 2 (some .int)) from rfl))
theorem kc182 : Cond.code (mname 182) (mcode 182) (mmaxl 182) (mret 182) ∈ lw_tbl := lwc_in (l := tables_1_6) (List.mem_of_getElem? (i := 6) rfl) (List.mem_of_getElem? (i := 206) (show tables_1_6[206]? = some (Cond.code ⟨"TornFringesModel", "isShut", "(I)Z"⟩ prog_14_method_20_code 2 (some .boolean)) from rfl))
theorem kc183 : Cond.code (mname 183) (mcode 183) (mmaxl 183) (mret 183) ∈ lw_tbl := lwc_in (l := tables_1_6) (List.mem_of_getElem? (i := 6) rfl) (List.mem_of_getElem? (i := 218) (show tables_1_6[218]? = some (Cond.code ⟨"TornFringesModel", "isCut", "(I)Z"⟩ prog_14_method_21_code 2 (some .boolean)) from rfl))
theorem kc184 : Cond.code (mname 184) (mcode 184) (mmaxl 184) (mret 184) ∈ lw_tbl := lwc_in (l := tables_1_6) (List.mem_of_getElem? (i := 6) rfl) (List.mem_of_getElem? (i := 222) (show tables_1_6[222]? = some (Cond.code ⟨"TornFringesModel", "gradeOfEdge", "(I)I"⟩ prog_14_method_22_code 4 (some .int)) from rfl))
theorem kc185 : Cond.code (mname 185) (mcode 185) (mmaxl 185) (mret 185) ∈ lw_tbl := lwc_in (l := tables_1_5) (List.mem_of_getElem? (i := 5) rfl) (List.mem_of_getElem? (i := 226) (show tables_1_5[226]? = some (Cond.code ⟨"TornFringesModel", "logs", "(III)V"⟩ prog_14_method_23_code 5 (none)) from rfl))
theorem kc186 : Cond.code (mname 186) (mcode 186) (mmaxl 186) (mret 186) ∈ lw_tbl := lwc_in (l := tables_1_5) (List.mem_of_getElem? (i := 5) rfl) (List.mem_of_getElem? (i := 238) (show tables_1_5[238]? = some (Cond.code ⟨"TornFringesModel", "keepsAct", "()V"⟩ prog_14_method_24_code 2 (none)) from rfl))
theorem kc187 : Cond.code (mname 187) (mcode 187) (mmaxl 187) (mret 187) ∈ lw_tbl := lwc_in (l := tables_1_6) (List.mem_of_getElem? (i := 6) rfl) (List.mem_of_getElem? (i := 30) (show tables_1_6[30]? = some (Cond.code ⟨"TornFringesModel", "clearsFlood", "()V"⟩ prog_14_method_25_code 2 (none)) from rfl))
theorem kc188 : Cond.code (mname 188) (mcode 188) (mmaxl 188) (mret 188) ∈ lw_tbl := lwc_in (l := tables_1_6) (List.mem_of_getElem? (i := 6) rfl) (List.mem_of_getElem? (i := 26) (show tables_1_6[26]? = some (Cond.code ⟨"TornFringesModel", "changes", "()V"⟩ prog_14_method_26_code 1 (none)) from rfl))
theorem kc189 : Cond.code (mname 189) (mcode 189) (mmaxl 189) (mret 189) ∈ lw_tbl := lwc_in (l := tables_1_5) (List.mem_of_getElem? (i := 5) rfl) (List.mem_of_getElem? (i := 222) (show tables_1_5[222]? = some (Cond.code ⟨"TornFringesModel", "undo", "()I"⟩ prog_14_method_27_code 2 (some .int)) from rfl))
theorem kc190 : Cond.code (mname 190) (mcode 190) (mmaxl 190) (mret 190) ∈ lw_tbl := lwc_in (l := tables_1_6) (List.mem_of_getElem? (i := 6) rfl) (List.mem_of_getElem? (i := 2) (show tables_1_6[2]? = some (Cond.code ⟨"TornFringesModel", "sizes", "(II)V"⟩ prog_14_method_28_code 4 (none)) from rfl))
theorem kc191 : Cond.code (mname 191) (mcode 191) (mmaxl 191) (mret 191) ∈ lw_tbl := lwc_in (l := tables_1_5) (List.mem_of_getElem? (i := 5) rfl) (List.mem_of_getElem? (i := 230) (show tables_1_5[230]? = some (Cond.code ⟨"TornFringesModel", "size", "(II)Z"⟩ prog_14_method_29_code 3 (some .boolean)) from rfl))
theorem kc192 : Cond.code (mname 192) (mcode 192) (mmaxl 192) (mret 192) ∈ lw_tbl := lwc_in (l := tables_1_6) (List.mem_of_getElem? (i := 6) rfl) (List.mem_of_getElem? (i := 6) (show tables_1_6[6]? = some (Cond.code ⟨"TornFringesModel", "phase", "(II)I"⟩ prog_14_method_30_code 3 (some .int)) from rfl))
theorem kc193 : Cond.code (mname 193) (mcode 193) (mmaxl 193) (mret 193) ∈ lw_tbl := lwc_in (l := tables_1_6) (List.mem_of_getElem? (i := 6) rfl) (List.mem_of_getElem? (i := 43) (show tables_1_6[43]? = some (Cond.code ⟨"TornFringesModel", "hide", "(IZ)Z"⟩ prog_14_method_31_code 3 (some .boolean)) from rfl))
theorem kc194 : Cond.code (mname 194) (mcode 194) (mmaxl 194) (mret 194) ∈ lw_tbl := lwc_in (l := tables_1_6) (List.mem_of_getElem? (i := 6) rfl) (List.mem_of_getElem? (i := 51) (show tables_1_6[51]? = some (Cond.code ⟨"TornFringesModel", "grade", "(II)Z"⟩ prog_14_method_32_code 3 (some .boolean)) from rfl))
theorem kc195 : Cond.code (mname 195) (mcode 195) (mmaxl 195) (mret 195) ∈ lw_tbl := lwc_in (l := tables_1_6) (List.mem_of_getElem? (i := 6) rfl) (List.mem_of_getElem? (i := 63) (show tables_1_6[63]? = some (Cond.code ⟨"TornFringesModel", "beside", "(II)I"⟩ prog_14_method_33_code 3 (some .int)) from rfl))
theorem kc196 : Cond.code (mname 196) (mcode 196) (mmaxl 196) (mret 196) ∈ lw_tbl := lwc_in (l := tables_1_6) (List.mem_of_getElem? (i := 6) rfl) (List.mem_of_getElem? (i := 202) (show tables_1_6[202]? = some (Cond.code ⟨"TornFringesModel", "edgeTo", "(II)I"⟩ prog_14_method_34_code 3 (some .int)) from rfl))
theorem kc197 : Cond.code (mname 197) (mcode 197) (mmaxl 197) (mret 197) ∈ lw_tbl := lwc_in (l := tables_1_6) (List.mem_of_getElem? (i := 6) rfl) (List.mem_of_getElem? (i := 59) (show tables_1_6[59]? = some (Cond.code ⟨"TornFringesModel", "gradeBySteps", "(I)I"⟩ prog_14_method_35_code 6 (some .int)) from rfl))
theorem kc198 : Cond.code (mname 198) (mcode 198) (mmaxl 198) (mret 198) ∈ lw_tbl := lwc_in (l := tables_1_6) (List.mem_of_getElem? (i := 6) rfl) (List.mem_of_getElem? (i := 95) (show tables_1_6[95]? = some (Cond.code ⟨"TornFringesModel", "farOf", "(II)I"⟩ prog_14_method_36_code 3 (some .int)) from rfl))
theorem kc199 : Cond.code (mname 199) (mcode 199) (mmaxl 199) (mret 199) ∈ lw_tbl := lwc_in (l := tables_1_6) (List.mem_of_getElem? (i := 6) rfl) (List.mem_of_getElem? (i := 83) (show tables_1_6[83]? = some (Cond.code ⟨"TornFringesModel", "gradeByTorn", "(I)I"⟩ prog_14_method_37_code 4 (some .int)) from rfl))
theorem kc200 : Cond.code (mname 200) (mcode 200) (mmaxl 200) (mret 200) ∈ lw_tbl := lwc_in (l := tables_1_6) (List.mem_of_getElem? (i := 6) rfl) (List.mem_of_getElem? (i := 55) (show tables_1_6[55]? = some (Cond.code ⟨"TornFringesModel", "grades", "(I)I"⟩ prog_14_method_38_code 5 (some .int)) from rfl))
theorem kc201 : Cond.code (mname 201) (mcode 201) (mmaxl 201) (mret 201) ∈ lw_tbl := lwc_in (l := tables_1_6) (List.mem_of_getElem? (i := 6) rfl) (List.mem_of_getElem? (i := 99) (show tables_1_6[99]? = some (Cond.code ⟨"TornFringesModel", "ramp", "(II)Z"⟩ prog_14_method_39_code 4 (some .boolean)) from rfl))
theorem kc202 : Cond.code (mname 202) (mcode 202) (mmaxl 202) (mret 202) ∈ lw_tbl := lwc_in (l := tables_1_6) (List.mem_of_getElem? (i := 6) rfl) (List.mem_of_getElem? (i := 107) (show tables_1_6[107]? = some (Cond.code ⟨"TornFringesModel", "draw", "(I)I"⟩ prog_14_method_40_code 2 (some .int)) from rfl))
theorem kc203 : Cond.code (mname 203) (mcode 203) (mmaxl 203) (mret 203) ∈ lw_tbl := lwc_in (l := tables_1_6) (List.mem_of_getElem? (i := 6) rfl) (List.mem_of_getElem? (i := 103) (show tables_1_6[103]? = some (Cond.code ⟨"TornFringesModel", "noise", "(I)Z"⟩ prog_14_method_41_code 4 (some .boolean)) from rfl))
theorem kc204 : Cond.code (mname 204) (mcode 204) (mmaxl 204) (mret 204) ∈ lw_tbl := lwc_in (l := tables_1_6) (List.mem_of_getElem? (i := 6) rfl) (List.mem_of_getElem? (i := 113) (show tables_1_6[113]? = some (Cond.code ⟨"TornFringesModel", "state", "(I)I"⟩ prog_14_method_42_code 3 (some .int)) from rfl))
theorem kc205 : Cond.code (mname 205) (mcode 205) (mmaxl 205) (mret 205) ∈ lw_tbl := lwc_in (l := tables_1_6) (List.mem_of_getElem? (i := 6) rfl) (List.mem_of_getElem? (i := 91) (show tables_1_6[91]? = some (Cond.code ⟨"TornFringesModel", "isRing", "(I)Z"⟩ prog_14_method_43_code 2 (some .boolean)) from rfl))
theorem kc206 : Cond.code (mname 206) (mcode 206) (mmaxl 206) (mret 206) ∈ lw_tbl := lwc_in (l := tables_1_6) (List.mem_of_getElem? (i := 6) rfl) (List.mem_of_getElem? (i := 87) (show tables_1_6[87]? = some (Cond.code ⟨"TornFringesModel", "chargeOf", "(I)I"⟩ prog_14_method_44_code 4 (some .int)) from rfl))
theorem kc207 : Cond.code (mname 207) (mcode 207) (mmaxl 207) (mret 207) ∈ lw_tbl := lwc_in (l := tables_1_6) (List.mem_of_getElem? (i := 6) rfl) (List.mem_of_getElem? (i := 149) (show tables_1_6[149]? = some (Cond.code ⟨"TornFringesModel", "toSide", "(II)I"⟩ prog_14_method_45_code 3 (some .int)) from rfl))
theorem kc208 : Cond.code (mname 208) (mcode 208) (mmaxl 208) (mret 208) ∈ lw_tbl := lwc_in (l := tables_1_6) (List.mem_of_getElem? (i := 6) rfl) (List.mem_of_getElem? (i := 145) (show tables_1_6[145]? = some (Cond.code ⟨"TornFringesModel", "nearestSide", "(I)I"⟩ prog_14_method_46_code 4 (some .int)) from rfl))
theorem kc209 : Cond.code (mname 209) (mcode 209) (mmaxl 209) (mret 209) ∈ lw_tbl := lwc_in (l := tables_1_6) (List.mem_of_getElem? (i := 6) rfl) (List.mem_of_getElem? (i := 141) (show tables_1_6[141]? = some (Cond.code ⟨"TornFringesModel", "farToBorder", "(I)I"⟩ prog_14_method_47_code 2 (some .int)) from rfl))
theorem kc210 : Cond.code (mname 210) (mcode 210) (mmaxl 210) (mret 210) ∈ lw_tbl := lwc_in (l := tables_1_6) (List.mem_of_getElem? (i := 6) rfl) (List.mem_of_getElem? (i := 125) (show tables_1_6[125]? = some (Cond.code ⟨"TornFringesModel", "laysTorn", "()V"⟩ prog_14_method_48_code 2 (none)) from rfl))
theorem kc211 : Cond.code (mname 211) (mcode 211) (mmaxl 211) (mret 211) ∈ lw_tbl := lwc_in (l := tables_1_6) (List.mem_of_getElem? (i := 6) rfl) (List.mem_of_getElem? (i := 153) (show tables_1_6[153]? = some (Cond.code ⟨"TornFringesModel", "areUnlike", "(II)Z"⟩ prog_14_method_49_code 3 (some .boolean)) from rfl))
theorem kc212 : Cond.code (mname 212) (mcode 212) (mmaxl 212) (mret 212) ∈ lw_tbl := lwc_in (l := tables_1_6) (List.mem_of_getElem? (i := 6) rfl) (List.mem_of_getElem? (i := 137) (show tables_1_6[137]? = some (Cond.code ⟨"TornFringesModel", "laysLeast", "()V"⟩ prog_14_method_50_code 6 (none)) from rfl))
theorem kc213 : Cond.code (mname 213) (mcode 213) (mmaxl 213) (mret 213) ∈ lw_tbl := lwc_in (l := tables_1_6) (List.mem_of_getElem? (i := 6) rfl) (List.mem_of_getElem? (i := 133) (show tables_1_6[133]? = some (Cond.code ⟨"TornFringesModel", "joinsLeast", "()V"⟩ prog_14_method_51_code 5 (none)) from rfl))
theorem kc214 : Cond.code (mname 214) (mcode 214) (mmaxl 214) (mret 214) ∈ lw_tbl := lwc_in (l := tables_1_6) (List.mem_of_getElem? (i := 6) rfl) (List.mem_of_getElem? (i := 157) (show tables_1_6[157]? = some (Cond.code ⟨"TornFringesModel", "joinsNearest", "()V"⟩ prog_14_method_52_code 7 (none)) from rfl))
theorem kc215 : Cond.code (mname 215) (mcode 215) (mmaxl 215) (mret 215) ∈ lw_tbl := lwc_in (l := tables_1_6) (List.mem_of_getElem? (i := 6) rfl) (List.mem_of_getElem? (i := 166) (show tables_1_6[166]? = some (Cond.code ⟨"TornFringesModel", "cutsOver", "(I)V"⟩ prog_14_method_53_code 2 (none)) from rfl))
theorem kc216 : Cond.code (mname 216) (mcode 216) (mmaxl 216) (mret 216) ∈ lw_tbl := lwc_in (l := tables_1_6) (List.mem_of_getElem? (i := 6) rfl) (List.mem_of_getElem? (i := 162) (show tables_1_6[162]? = some (Cond.code ⟨"TornFringesModel", "cutsOut", "(II)V"⟩ prog_14_method_54_code 7 (none)) from rfl))
theorem kc217 : Cond.code (mname 217) (mcode 217) (mmaxl 217) (mret 217) ∈ lw_tbl := lwc_in (l := tables_1_6) (List.mem_of_getElem? (i := 6) rfl) (List.mem_of_getElem? (i := 170) (show tables_1_6[170]? = some (Cond.code ⟨"TornFringesModel", "cutsTo", "(II)V"⟩ prog_14_method_55_code 6 (none)) from rfl))
theorem kc218 : Cond.code (mname 218) (mcode 218) (mmaxl 218) (mret 218) ∈ lw_tbl := lwc_in (l := tables_1_6) (List.mem_of_getElem? (i := 6) rfl) (List.mem_of_getElem? (i := 129) (show tables_1_6[129]? = some (Cond.code ⟨"TornFringesModel", "joinsBy", "(I)I"⟩ prog_14_method_56_code 6 (some .int)) from rfl))
theorem kc219 : Cond.code (mname 219) (mcode 219) (mmaxl 219) (mret 219) ∈ lw_tbl := lwc_in (l := tables_1_6) (List.mem_of_getElem? (i := 6) rfl) (List.mem_of_getElem? (i := 121) (show tables_1_6[121]? = some (Cond.code ⟨"TornFringesModel", "canJoin", "(I)Z"⟩ prog_14_method_57_code 2 (some .boolean)) from rfl))
theorem kc220 : Cond.code (mname 220) (mcode 220) (mmaxl 220) (mret 220) ∈ lw_tbl := lwc_in (l := tables_1_6) (List.mem_of_getElem? (i := 6) rfl) (List.mem_of_getElem? (i := 117) (show tables_1_6[117]? = some (Cond.code ⟨"TornFringesModel", "join", "(I)I"⟩ prog_14_method_58_code 3 (some .int)) from rfl))
theorem kc221 : Cond.code (mname 221) (mcode 221) (mmaxl 221) (mret 221) ∈ lw_tbl := lwc_in (l := tables_1_6) (List.mem_of_getElem? (i := 6) rfl) (List.mem_of_getElem? (i := 174) (show tables_1_6[174]? = some (Cond.code ⟨"TornFringesModel", "cut", "(IZ)Z"⟩ prog_14_method_59_code 3 (some .boolean)) from rfl))
theorem kc222 : Cond.code (mname 222) (mcode 222) (mmaxl 222) (mret 222) ∈ lw_tbl := lwc_in (l := tables_1_6) (List.mem_of_getElem? (i := 6) rfl) (List.mem_of_getElem? (i := 186) (show tables_1_6[186]? = some (Cond.code ⟨"TornFringesModel", "toBeLaid", "()I"⟩ prog_14_method_60_code 3 (some .int)) from rfl))
theorem kc223 : Cond.code (mname 223) (mcode 223) (mmaxl 223) (mret 223) ∈ lw_tbl := lwc_in (l := tables_1_6) (List.mem_of_getElem? (i := 6) rfl) (List.mem_of_getElem? (i := 234) (show tables_1_6[234]? = some (Cond.code ⟨"TornFringesModel", "lays", "(IIII)V"⟩ prog_14_method_61_code 5 (none)) from rfl))
theorem kc224 : Cond.code (mname 224) (mcode 224) (mmaxl 224) (mret 224) ∈ lw_tbl := lwc_in (l := tables_1_6) (List.mem_of_getElem? (i := 6) rfl) (List.mem_of_getElem? (i := 230) (show tables_1_6[230]? = some (Cond.code ⟨"TornFringesModel", "beginsIsland", "()V"⟩ prog_14_method_62_code 3 (none)) from rfl))
theorem kc225 : Cond.code (mname 225) (mcode 225) (mmaxl 225) (mret 225) ∈ lw_tbl := lwc_in (l := tables_1_6) (List.mem_of_getElem? (i := 6) rfl) (List.mem_of_getElem? (i := 198) (show tables_1_6[198]? = some (Cond.code ⟨"TornFringesModel", "moves", "()Z"⟩ prog_14_method_63_code 9 (some .boolean)) from rfl))
theorem kc226 : Cond.code (mname 226) (mcode 226) (mmaxl 226) (mret 226) ∈ lw_tbl := lwc_in (l := tables_1_6) (List.mem_of_getElem? (i := 6) rfl) (List.mem_of_getElem? (i := 182) (show tables_1_6[182]? = some (Cond.code ⟨"TornFringesModel", "begin", "()I"⟩ prog_14_method_64_code 2 (some .int)) from rfl))
theorem kc227 : Cond.code (mname 227) (mcode 227) (mmaxl 227) (mret 227) ∈ lw_tbl := lwc_in (l := tables_1_6) (List.mem_of_getElem? (i := 6) rfl) (List.mem_of_getElem? (i := 194) (show tables_1_6[194]? = some (Cond.code ⟨"TornFringesModel", "step", "(I)I"⟩ prog_14_method_65_code 3 (some .int)) from rfl))
theorem kc228 : Cond.code (mname 228) (mcode 228) (mmaxl 228) (mret 228) ∈ lw_tbl := lwc_in (l := tables_1_7) (List.mem_of_getElem? (i := 7) rfl) (List.mem_of_getElem? (i := 10) (show tables_1_7[10]? = some (Cond.code ⟨"TornFringesModel", "isWrong", "(I)Z"⟩ prog_14_method_66_code 4 (some .boolean)) from rfl))
theorem kc229 : Cond.code (mname 229) (mcode 229) (mmaxl 229) (mret 229) ∈ lw_tbl := lwc_in (l := tables_1_7) (List.mem_of_getElem? (i := 7) rfl) (List.mem_of_getElem? (i := 6) (show tables_1_7[6]? = some (Cond.code ⟨"TornFringesModel", "areLaid", "(I)Z"⟩ prog_14_method_67_code 2 (some .boolean)) from rfl))
theorem kc230 : Cond.code (mname 230) (mcode 230) (mmaxl 230) (mret 230) ∈ lw_tbl := lwc_in (l := tables_1_7) (List.mem_of_getElem? (i := 7) rfl) (List.mem_of_getElem? (i := 2) (show tables_1_7[2]? = some (Cond.code ⟨"TornFringesModel", "isJump", "(I)Z"⟩ prog_14_method_68_code 2 (some .boolean)) from rfl))
theorem kc231 : Cond.code (mname 231) (mcode 231) (mmaxl 231) (mret 231) ∈ lw_tbl := lwc_in (l := tables_1_7) (List.mem_of_getElem? (i := 7) rfl) (List.mem_of_getElem? (i := 108) (show tables_1_7[108]? = some (Cond.code ⟨"TornFringesModel", "isTear", "(I)Z"⟩ prog_14_method_69_code 2 (some .boolean)) from rfl))
theorem kc232 : Cond.code (mname 232) (mcode 232) (mmaxl 232) (mret 232) ∈ lw_tbl := lwc_in (l := tables_1_6) (List.mem_of_getElem? (i := 6) rfl) (List.mem_of_getElem? (i := 238) (show tables_1_6[238]? = some (Cond.code ⟨"TornFringesModel", "jumps", "()I"⟩ prog_14_method_70_code 3 (some .int)) from rfl))
theorem kc233 : Cond.code (mname 233) (mcode 233) (mmaxl 233) (mret 233) ∈ lw_tbl := lwc_in (l := tables_1_7) (List.mem_of_getElem? (i := 7) rfl) (List.mem_of_getElem? (i := 204) (show tables_1_7[204]? = some (Cond.code ⟨"TornFringesModel", "tears", "()I"⟩ prog_14_method_71_code 3 (some .int)) from rfl))
theorem kc234 : Cond.code (mname 234) (mcode 234) (mmaxl 234) (mret 234) ∈ lw_tbl := lwc_in (l := tables_1_7) (List.mem_of_getElem? (i := 7) rfl) (List.mem_of_getElem? (i := 18) (show tables_1_7[18]? = some (Cond.code ⟨"TornFringesModel", "isIsland", "(I)Z"⟩ prog_14_method_72_code 2 (some .boolean)) from rfl))
theorem kc235 : Cond.code (mname 235) (mcode 235) (mmaxl 235) (mret 235) ∈ lw_tbl := lwc_in (l := tables_1_7) (List.mem_of_getElem? (i := 7) rfl) (List.mem_of_getElem? (i := 22) (show tables_1_7[22]? = some (Cond.code ⟨"TornFringesModel", "canLift", "(II)Z"⟩ prog_14_method_73_code 6 (some .boolean)) from rfl))
theorem kc236 : Cond.code (mname 236) (mcode 236) (mmaxl 236) (mret 236) ∈ lw_tbl := lwc_in (l := tables_1_7) (List.mem_of_getElem? (i := 7) rfl) (List.mem_of_getElem? (i := 26) (show tables_1_7[26]? = some (Cond.code ⟨"TornFringesModel", "lifts", "(II)V"⟩ prog_14_method_74_code 4 (none)) from rfl))
theorem kc237 : Cond.code (mname 237) (mcode 237) (mmaxl 237) (mret 237) ∈ lw_tbl := lwc_in (l := tables_1_7) (List.mem_of_getElem? (i := 7) rfl) (List.mem_of_getElem? (i := 14) (show tables_1_7[14]? = some (Cond.code ⟨"TornFringesModel", "lift", "(II)Z"⟩ prog_14_method_75_code 3 (some .boolean)) from rfl))
theorem kc238 : Cond.code (mname 238) (mcode 238) (mmaxl 238) (mret 238) ∈ lw_tbl := lwc_in (l := tables_1_7) (List.mem_of_getElem? (i := 7) rfl) (List.mem_of_getElem? (i := 42) (show tables_1_7[42]? = some (Cond.code ⟨"TornFringesModel", "lackAt", "(II)I"⟩ prog_14_method_76_code 5 (some .int)) from rfl))
theorem kc239 : Cond.code (mname 239) (mcode 239) (mmaxl 239) (mret 239) ∈ lw_tbl := lwc_in (l := tables_1_7) (List.mem_of_getElem? (i := 7) rfl) (List.mem_of_getElem? (i := 38) (show tables_1_7[38]? = some (Cond.code ⟨"TornFringesModel", "isBetween", "(III)Z"⟩ prog_14_method_77_code 6 (some .boolean)) from rfl))
theorem kc240 : Cond.code (mname 240) (mcode 240) (mmaxl 240) (mret 240) ∈ lw_tbl := lwc_in (l := tables_1_7) (List.mem_of_getElem? (i := 7) rfl) (List.mem_of_getElem? (i := 46) (show tables_1_7[46]? = some (Cond.code ⟨"TornFringesModel", "isNearer", "(II)Z"⟩ prog_14_method_78_code 7 (some .boolean)) from rfl))
theorem kc241 : Cond.code (mname 241) (mcode 241) (mmaxl 241) (mret 241) ∈ lw_tbl := lwc_in (l := tables_1_7) (List.mem_of_getElem? (i := 7) rfl) (List.mem_of_getElem? (i := 34) (show tables_1_7[34]? = some (Cond.code ⟨"TornFringesModel", "fits", "(II)Z"⟩ prog_14_method_79_code 7 (some .boolean)) from rfl))
theorem kc242 : Cond.code (mname 242) (mcode 242) (mmaxl 242) (mret 242) ∈ lw_tbl := lwc_in (l := tables_1_7) (List.mem_of_getElem? (i := 7) rfl) (List.mem_of_getElem? (i := 30) (show tables_1_7[30]? = some (Cond.code ⟨"TornFringesModel", "fit", "(III)I"⟩ prog_14_method_80_code 4 (some .int)) from rfl))
theorem kc243 : Cond.code (mname 243) (mcode 243) (mmaxl 243) (mret 243) ∈ lw_tbl := lwc_in (l := tables_1_7) (List.mem_of_getElem? (i := 7) rfl) (List.mem_of_getElem? (i := 55) (show tables_1_7[55]? = some (Cond.code ⟨"TornFringesModel", "settles", "()I"⟩ prog_14_method_81_code 8 (some .int)) from rfl))
theorem kc244 : Cond.code (mname 244) (mcode 244) (mmaxl 244) (mret 244) ∈ lw_tbl := lwc_in (l := tables_1_7) (List.mem_of_getElem? (i := 7) rfl) (List.mem_of_getElem? (i := 59) (show tables_1_7[59]? = some (Cond.code ⟨"TornFringesModel", "changesPlaces", "()V"⟩ prog_14_method_82_code 3 (none)) from rfl))
theorem kc245 : Cond.code (mname 245) (mcode 245) (mmaxl 245) (mret 245) ∈ lw_tbl := lwc_in (l := tables_1_7) (List.mem_of_getElem? (i := 7) rfl) (List.mem_of_getElem? (i := 51) (show tables_1_7[51]? = some (Cond.code ⟨"TornFringesModel", "settle", "()I"⟩ prog_14_method_83_code 2 (some .int)) from rfl))
theorem kc246 : Cond.code (mname 246) (mcode 246) (mmaxl 246) (mret 246) ∈ lw_tbl := lwc_in (l := tables_1_7) (List.mem_of_getElem? (i := 7) rfl) (List.mem_of_getElem? (i := 67) (show tables_1_7[67]? = some (Cond.code ⟨"TornFringesModel", "types", "(I)V"⟩ prog_14_method_84_code 3 (none)) from rfl))
theorem kc247 : Cond.code (mname 247) (mcode 247) (mmaxl 247) (mret 247) ∈ lw_tbl := lwc_in (l := tables_1_7) (List.mem_of_getElem? (i := 7) rfl) (List.mem_of_getElem? (i := 63) (show tables_1_7[63]? = some (Cond.code ⟨"TornFringesModel", "feed", "(IIIII)I"⟩ prog_14_method_85_code 6 (some .int)) from rfl))
theorem kc248 : Cond.code (mname 248) (mcode 248) (mmaxl 248) (mret 248) ∈ lw_tbl := lwc_in (l := tables_1_7) (List.mem_of_getElem? (i := 7) rfl) (List.mem_of_getElem? (i := 71) (show tables_1_7[71]? = some (Cond.code ⟨"TornFringesModel", "end", "(I)Z"⟩ prog_14_method_86_code 2 (some .boolean)) from rfl))
theorem kc249 : Cond.code (mname 249) (mcode 249) (mmaxl 249) (mret 249) ∈ lw_tbl := lwc_in (l := tables_1_7) (List.mem_of_getElem? (i := 7) rfl) (List.mem_of_getElem? (i := 83) (show tables_1_7[83]? = some (Cond.code ⟨"TornFringesModel", "hexOf", "(I)I"⟩ prog_14_method_87_code 2 (some .int)) from rfl))
theorem kc250 : Cond.code (mname 250) (mcode 250) (mmaxl 250) (mret 250) ∈ lw_tbl := lwc_in (l := tables_1_7) (List.mem_of_getElem? (i := 7) rfl) (List.mem_of_getElem? (i := 79) (show tables_1_7[79]? = some (Cond.code ⟨"TornFringesModel", "reads", "(I)I"⟩ prog_14_method_88_code 7 (some .int)) from rfl))
theorem kc251 : Cond.code (mname 251) (mcode 251) (mmaxl 251) (mret 251) ∈ lw_tbl := lwc_in (l := tables_1_7) (List.mem_of_getElem? (i := 7) rfl) (List.mem_of_getElem? (i := 75) (show tables_1_7[75]? = some (Cond.code ⟨"TornFringesModel", "text", "()I"⟩ prog_14_method_89_code 3 (some .int)) from rfl))
theorem kc252 : Cond.code (mname 252) (mcode 252) (mmaxl 252) (mret 252) ∈ lw_tbl := lwc_in (l := tables_1_7) (List.mem_of_getElem? (i := 7) rfl) (List.mem_of_getElem? (i := 87) (show tables_1_7[87]? = some (Cond.code ⟨"TornFringesModel", "fault", "()I"⟩ prog_14_method_90_code 1 (some .int)) from rfl))
theorem kc253 : Cond.code (mname 253) (mcode 253) (mmaxl 253) (mret 253) ∈ lw_tbl := lwc_in (l := tables_1_7) (List.mem_of_getElem? (i := 7) rfl) (List.mem_of_getElem? (i := 95) (show tables_1_7[95]? = some (Cond.code ⟨"TornFringesModel", "backMany", "(I)I"⟩ prog_14_method_91_code 4 (some .int)) from rfl))
theorem kc254 : Cond.code (mname 254) (mcode 254) (mmaxl 254) (mret 254) ∈ lw_tbl := lwc_in (l := tables_1_7) (List.mem_of_getElem? (i := 7) rfl) (List.mem_of_getElem? (i := 91) (show tables_1_7[91]? = some (Cond.code ⟨"TornFringesModel", "pixel", "(II)I"⟩ prog_14_method_92_code 4 (some .int)) from rfl))
theorem kc255 : Cond.code (mname 255) (mcode 255) (mmaxl 255) (mret 255) ∈ lw_tbl := lwc_in (l := tables_1_7) (List.mem_of_getElem? (i := 7) rfl) (List.mem_of_getElem? (i := 99) (show tables_1_7[99]? = some (Cond.code ⟨"TornFringesModel", "height", "(I)I"⟩ prog_14_method_93_code 2 (some .int)) from rfl))
theorem kc256 : Cond.code (mname 256) (mcode 256) (mmaxl 256) (mret 256) ∈ lw_tbl := lwc_in (l := tables_1_7) (List.mem_of_getElem? (i := 7) rfl) (List.mem_of_getElem? (i := 104) (show tables_1_7[104]? = some (Cond.code ⟨"TornFringesModel", "edge", "(II)I"⟩ prog_14_method_94_code 3 (some .int)) from rfl))
theorem kc257 : Cond.code (mname 257) (mcode 257) (mmaxl 257) (mret 257) ∈ lw_tbl := lwc_in (l := tables_1_7) (List.mem_of_getElem? (i := 7) rfl) (List.mem_of_getElem? (i := 112) (show tables_1_7[112]? = some (Cond.code ⟨"TornFringesModel", "charge", "(I)I"⟩ prog_14_method_95_code 2 (some .int)) from rfl))
theorem kc258 : Cond.code (mname 258) (mcode 258) (mmaxl 258) (mret 258) ∈ lw_tbl := lwc_in (l := tables_1_7) (List.mem_of_getElem? (i := 7) rfl) (List.mem_of_getElem? (i := 116) (show tables_1_7[116]? = some (Cond.code ⟨"TornFringesModel", "torn", "(I)I"⟩ prog_14_method_96_code 2 (some .int)) from rfl))
theorem kc259 : Cond.code (mname 259) (mcode 259) (mmaxl 259) (mret 259) ∈ lw_tbl := lwc_in (l := tables_1_7) (List.mem_of_getElem? (i := 7) rfl) (List.mem_of_getElem? (i := 120) (show tables_1_7[120]? = some (Cond.code ⟨"TornFringesModel", "far", "(II)I"⟩ prog_14_method_97_code 3 (some .int)) from rfl))
theorem kc260 : Cond.code (mname 260) (mcode 260) (mmaxl 260) (mret 260) ∈ lw_tbl := lwc_in (l := tables_1_7) (List.mem_of_getElem? (i := 7) rfl) (List.mem_of_getElem? (i := 124) (show tables_1_7[124]? = some (Cond.code ⟨"TornFringesModel", "joined", "(II)I"⟩ prog_14_method_98_code 3 (some .int)) from rfl))
theorem kc261 : Cond.code (mname 261) (mcode 261) (mmaxl 261) (mret 261) ∈ lw_tbl := lwc_in (l := tables_1_7) (List.mem_of_getElem? (i := 7) rfl) (List.mem_of_getElem? (i := 132) (show tables_1_7[132]? = some (Cond.code ⟨"TornFringesModel", "pixelsOf", "(I)I"⟩ prog_14_method_99_code 4 (some .int)) from rfl))
theorem kc262 : Cond.code (mname 262) (mcode 262) (mmaxl 262) (mret 262) ∈ lw_tbl := lwc_in (l := tables_1_7) (List.mem_of_getElem? (i := 7) rfl) (List.mem_of_getElem? (i := 136) (show tables_1_7[136]? = some (Cond.code ⟨"TornFringesModel", "edgesOut", "(I)I"⟩ prog_14_method_100_code 6 (some .int)) from rfl))
theorem kc263 : Cond.code (mname 263) (mcode 263) (mmaxl 263) (mret 263) ∈ lw_tbl := lwc_in (l := tables_1_7) (List.mem_of_getElem? (i := 7) rfl) (List.mem_of_getElem? (i := 128) (show tables_1_7[128]? = some (Cond.code ⟨"TornFringesModel", "island", "(II)I"⟩ prog_14_method_101_code 3 (some .int)) from rfl))
theorem kc264 : Cond.code (mname 264) (mcode 264) (mmaxl 264) (mret 264) ∈ lw_tbl := lwc_in (l := tables_1_7) (List.mem_of_getElem? (i := 7) rfl) (List.mem_of_getElem? (i := 140) (show tables_1_7[140]? = some (Cond.code ⟨"TornFringesModel", "loop", "(IIII)I"⟩ prog_14_method_102_code 9 (some .int)) from rfl))
theorem kc265 : Cond.code (mname 265) (mcode 265) (mmaxl 265) (mret 265) ∈ lw_tbl := lwc_in (l := tables_1_7) (List.mem_of_getElem? (i := 7) rfl) (List.mem_of_getElem? (i := 144) (show tables_1_7[144]? = some (Cond.code ⟨"TornFringesModel", "sum", "(I)J"⟩ prog_14_method_103_code 5 (some .long)) from rfl))
theorem kc266 : Cond.code (mname 266) (mcode 266) (mmaxl 266) (mret 266) ∈ lw_tbl := lwc_in (l := tables_1_7) (List.mem_of_getElem? (i := 7) rfl) (List.mem_of_getElem? (i := 149) (show tables_1_7[149]? = some (Cond.code ⟨"TornFringesModel", "power", "(IJ)J"⟩ prog_14_method_104_code 9 (some .long)) from rfl))
theorem kc267 : Cond.code (mname 267) (mcode 267) (mmaxl 267) (mret 267) ∈ lw_tbl := lwc_in (l := tables_1_7) (List.mem_of_getElem? (i := 7) rfl) (List.mem_of_getElem? (i := 160) (show tables_1_7[160]? = some (Cond.code ⟨"TornFringesModel", "outmost", "(Z)I"⟩ prog_14_method_105_code 4 (some .int)) from rfl))
theorem kc268 : Cond.code (mname 268) (mcode 268) (mmaxl 268) (mret 268) ∈ lw_tbl := lwc_in (l := tables_1_7) (List.mem_of_getElem? (i := 7) rfl) (List.mem_of_getElem? (i := 156) (show tables_1_7[156]? = some (Cond.code ⟨"TornFringesModel", "range", "(I)I"⟩ prog_14_method_106_code 3 (some .int)) from rfl))
theorem kc269 : Cond.code (mname 269) (mcode 269) (mmaxl 269) (mret 269) ∈ lw_tbl := lwc_in (l := tables_1_7) (List.mem_of_getElem? (i := 7) rfl) (List.mem_of_getElem? (i := 164) (show tables_1_7[164]? = some (Cond.code ⟨"TornFringesModel", "between", "(II)I"⟩ prog_14_method_107_code 5 (some .int)) from rfl))
theorem kc270 : Cond.code (mname 270) (mcode 270) (mmaxl 270) (mret 270) ∈ lw_tbl := lwc_in (l := tables_1_7) (List.mem_of_getElem? (i := 7) rfl) (List.mem_of_getElem? (i := 176) (show tables_1_7[176]? = some (Cond.code ⟨"TornFringesModel", "isUp", "(II)Z"⟩ prog_14_method_108_code 3 (some .boolean)) from rfl))
theorem kc271 : Cond.code (mname 271) (mcode 271) (mmaxl 271) (mret 271) ∈ lw_tbl := lwc_in (l := tables_1_7) (List.mem_of_getElem? (i := 7) rfl) (List.mem_of_getElem? (i := 172) (show tables_1_7[172]? = some (Cond.code ⟨"TornFringesModel", "laysAreas", "(I)V"⟩ prog_14_method_109_code 5 (none)) from rfl))
theorem kc272 : Cond.code (mname 272) (mcode 272) (mmaxl 272) (mret 272) ∈ lw_tbl := lwc_in (l := tables_1_7) (List.mem_of_getElem? (i := 7) rfl) (List.mem_of_getElem? (i := 180) (show tables_1_7[180]? = some (Cond.code ⟨"TornFringesModel", "pixelsIn", "(II)I"⟩ prog_14_method_110_code 5 (some .int)) from rfl))
theorem kc273 : Cond.code (mname 273) (mcode 273) (mmaxl 273) (mret 273) ∈ lw_tbl := lwc_in (l := tables_1_7) (List.mem_of_getElem? (i := 7) rfl) (List.mem_of_getElem? (i := 168) (show tables_1_7[168]? = some (Cond.code ⟨"TornFringesModel", "areas", "(II)I"⟩ prog_14_method_111_code 7 (some .int)) from rfl))
theorem kc274 : Cond.code (mname 274) (mcode 274) (mmaxl 274) (mret 274) ∈ lw_tbl := lwc_in (l := tables_1_7) (List.mem_of_getElem? (i := 7) rfl) (List.mem_of_getElem? (i := 188) (show tables_1_7[188]? = some (Cond.code ⟨"TornFringesModel", "isPeak", "(I)Z"⟩ prog_14_method_112_code 4 (some .boolean)) from rfl))
theorem kc275 : Cond.code (mname 275) (mcode 275) (mmaxl 275) (mret 275) ∈ lw_tbl := lwc_in (l := tables_1_7) (List.mem_of_getElem? (i := 7) rfl) (List.mem_of_getElem? (i := 184) (show tables_1_7[184]? = some (Cond.code ⟨"TornFringesModel", "peak", "(I)I"⟩ prog_14_method_113_code 4 (some .int)) from rfl))
theorem kc276 : Cond.code (mname 276) (mcode 276) (mmaxl 276) (mret 276) ∈ lw_tbl := lwc_in (l := tables_1_7) (List.mem_of_getElem? (i := 7) rfl) (List.mem_of_getElem? (i := 192) (show tables_1_7[192]? = some (Cond.code ⟨"TornFringesModel", "way", "(II)I"⟩ prog_14_method_114_code 5 (some .int)) from rfl))
theorem kc277 : Cond.code (mname 277) (mcode 277) (mmaxl 277) (mret 277) ∈ lw_tbl := lwc_in (l := tables_1_7) (List.mem_of_getElem? (i := 7) rfl) (List.mem_of_getElem? (i := 200) (show tables_1_7[200]? = some (Cond.code ⟨"TornFringesModel", "floods", "()V"⟩ prog_14_method_115_code 1 (none)) from rfl))
theorem kc278 : Cond.code (mname 278) (mcode 278) (mmaxl 278) (mret 278) ∈ lw_tbl := lwc_in (l := tables_1_7) (List.mem_of_getElem? (i := 7) rfl) (List.mem_of_getElem? (i := 208) (show tables_1_7[208]? = some (Cond.code ⟨"TornFringesModel", "othersThan", "([I)I"⟩ prog_14_method_116_code 4 (some .int)) from rfl))
theorem kc279 : Cond.code (mname 279) (mcode 279) (mmaxl 279) (mret 279) ∈ lw_tbl := lwc_in (l := tables_1_7) (List.mem_of_getElem? (i := 7) rfl) (List.mem_of_getElem? (i := 196) (show tables_1_7[196]? = some (Cond.code ⟨"TornFringesModel", "would", "(II)I"⟩ prog_14_method_117_code 5 (some .int)) from rfl))
theorem kc280 : Cond.code (mname 280) (mcode 280) (mmaxl 280) (mret 280) ∈ lw_tbl := lwc_in (l := tables_1_7) (List.mem_of_getElem? (i := 7) rfl) (List.mem_of_getElem? (i := 212) (show tables_1_7[212]? = some (Cond.code ⟨"TornFringesModel", "apart", "(I)I"⟩ prog_14_method_118_code 4 (some .int)) from rfl))
theorem kc281 : Cond.code (mname 281) (mcode 281) (mmaxl 281) (mret 281) ∈ lw_tbl := lwc_in (l := tables_1_7) (List.mem_of_getElem? (i := 7) rfl) (List.mem_of_getElem? (i := 216) (show tables_1_7[216]? = some (Cond.code ⟨"TornFringesModel", "log", "(II)I"⟩ prog_14_method_119_code 3 (some .int)) from rfl))
theorem kc282 : Cond.code (mname 282) (mcode 282) (mmaxl 282) (mret 282) ∈ lw_tbl := lwc_in (l := tables_1_7) (List.mem_of_getElem? (i := 7) rfl) (List.mem_of_getElem? (i := 220) (show tables_1_7[220]? = some (Cond.code ⟨"TornFringesModel", "image", "(Z)Z"⟩ prog_14_method_120_code 3 (some .boolean)) from rfl))
theorem kc283 : Cond.code (mname 283) (mcode 283) (mmaxl 283) (mret 283) ∈ lw_tbl := lwc_in (l := tables_1_7) (List.mem_of_getElem? (i := 7) rfl) (List.mem_of_getElem? (i := 228) (show tables_1_7[228]? = some (Cond.code ⟨"TornFringesModel", "sumOf", "(II)I"⟩ prog_14_method_121_code 5 (some .int)) from rfl))
theorem kc284 : Cond.code (mname 284) (mcode 284) (mmaxl 284) (mret 284) ∈ lw_tbl := lwc_in (l := tables_1_7) (List.mem_of_getElem? (i := 7) rfl) (List.mem_of_getElem? (i := 232) (show tables_1_7[232]? = some (Cond.code ⟨"TornFringesModel", "charges", "()I"⟩ prog_14_method_122_code 3 (some .int)) from rfl))
theorem kc285 : Cond.code (mname 285) (mcode 285) (mmaxl 285) (mret 285) ∈ lw_tbl := lwc_in (l := tables_1_7) (List.mem_of_getElem? (i := 7) rfl) (List.mem_of_getElem? (i := 236) (show tables_1_7[236]? = some (Cond.code ⟨"TornFringesModel", "cuts", "()I"⟩ prog_14_method_123_code 3 (some .int)) from rfl))
theorem kc286 : Cond.code (mname 286) (mcode 286) (mmaxl 286) (mret 286) ∈ lw_tbl := lwc_in (l := tables_1_8) (List.mem_of_getElem? (i := 8) rfl) (List.mem_of_getElem? (i := 0) (show tables_1_8[0]? = some (Cond.code ⟨"TornFringesModel", "laidMany", "()I"⟩ prog_14_method_124_code 3 (some .int)) from rfl))
theorem kc287 : Cond.code (mname 287) (mcode 287) (mmaxl 287) (mret 287) ∈ lw_tbl := lwc_in (l := tables_1_7) (List.mem_of_getElem? (i := 7) rfl) (List.mem_of_getElem? (i := 224) (show tables_1_7[224]? = some (Cond.code ⟨"TornFringesModel", "look", "(I)I"⟩ prog_14_method_125_code 2 (some .int)) from rfl))
theorem kc288 : Cond.code (mname 288) (mcode 288) (mmaxl 288) (mret 288) ∈ lw_tbl := lwc_in (l := tables_1_3) (List.mem_of_getElem? (i := 3) rfl) (List.mem_of_getElem? (i := 88) (show tables_1_3[88]? = some (Cond.code ⟨"java/util/Arrays", "rangeCheck", "(III)V"⟩ prog_17_method_30_code 3 (none)) from rfl))
theorem kc289 : Cond.code (mname 289) (mcode 289) (mmaxl 289) (mret 289) ∈ lw_tbl := lwc_in (l := tables_1_1) (List.mem_of_getElem? (i := 1) rfl) (List.mem_of_getElem? (i := 113) (show tables_1_1[113]? = some (Cond.code ⟨"java/util/Arrays", "fill", "([II)V"⟩ prog_17_method_103_code 4 (none)) from rfl))
theorem kc290 : Cond.code (mname 290) (mcode 290) (mmaxl 290) (mret 290) ∈ lw_tbl := lwc_in (l := tables_1_3) (List.mem_of_getElem? (i := 3) rfl) (List.mem_of_getElem? (i := 85) (show tables_1_3[85]? = some (Cond.code ⟨"java/util/Arrays", "fill", "([IIII)V"⟩ prog_17_method_104_code 5 (none)) from rfl))
def nMet : Nat := 291
theorem kq0 : (mtab0.take 50).all chkM = true := by decide +kernel
theorem kq1 : (mtab1.take 50).all chkM = true := by decide +kernel
theorem kq2 : (mtab2.take 50).all chkM = true := by decide +kernel
theorem kq3 : (mtab3.take 50).all chkM = true := by decide +kernel
theorem kq4 : (mtab4.take 50).all chkM = true := by decide +kernel
theorem kq5 : (mtab5.take 41).all chkM = true := by decide +kernel
theorem chkM_at : ∀ c j : Nat, 50 * c + j < nMet → j < 50 → chkM ((mtabs.getD c []).getD j mrow0) = true := by
  intro c j h hj
  have hc : c < 6 := by unfold nMet at h; omega
  have key : ∀ (l : List mrow) (n : Nat), (l.take n).all chkM = true → n ≤ l.length → j < n → chkM (l.getD j mrow0) = true := by
    intro l n h1 h2 h3
    have h4 : j < (l.take n).length := by rw [List.length_take]; omega
    have h5 := List.all_eq_true.mp h1 _ (List.getElem_mem h4)
    rw [List.getElem_take] at h5
    rw [List.getD_eq_getElem?_getD, List.getElem?_eq_getElem (by omega)]
    exact h5
  unfold nMet at h
  rcases (show c = 0 ∨ c = 1 ∨ c = 2 ∨ c = 3 ∨ c = 4 ∨ c = 5 by omega) with rfl | rfl | rfl | rfl | rfl | rfl
  · exact key mtab0 50 kq0 (Nat.le_of_ble_eq_true rfl) (by omega)
  · exact key mtab1 50 kq1 (Nat.le_of_ble_eq_true rfl) (by omega)
  · exact key mtab2 50 kq2 (Nat.le_of_ble_eq_true rfl) (by omega)
  · exact key mtab3 50 kq3 (Nat.le_of_ble_eq_true rfl) (by omega)
  · exact key mtab4 50 kq4 (Nat.le_of_ble_eq_true rfl) (by omega)
  · exact key mtab5 41 kq5 (Nat.le_of_ble_eq_true rfl) (by omega)
theorem chkM_k {k : Nat} (h : k < nMet) : chkM (mro k) = true := chkM_at (k / 50) (k % 50) (by rw [Nat.div_add_mod]; exact h) (Nat.mod_lt _ (by decide))
set_option maxRecDepth 100000 in
theorem kd0 : ∀ q ∈ mtab0.take 50, Cond.code q.1 q.2.1 q.2.2.1 q.2.2.2.1 ∈ lw_tbl := List.forall_mem_cons.mpr ⟨kc0, List.forall_mem_cons.mpr ⟨kc1, List.forall_mem_cons.mpr ⟨kc2, List.forall_mem_cons.mpr ⟨kc3, List.forall_mem_cons.mpr ⟨kc4, List.forall_mem_cons.mpr ⟨kc5, List.forall_mem_cons.mpr ⟨kc6, List.forall_mem_cons.mpr ⟨kc7, List.forall_mem_cons.mpr ⟨kc8, List.forall_mem_cons.mpr ⟨kc9, List.forall_mem_cons.mpr ⟨kc10, List.forall_mem_cons.mpr ⟨kc11, List.forall_mem_cons.mpr ⟨kc12, List.forall_mem_cons.mpr ⟨kc13, List.forall_mem_cons.mpr ⟨kc14, List.forall_mem_cons.mpr ⟨kc15, List.forall_mem_cons.mpr ⟨kc16, List.forall_mem_cons.mpr ⟨kc17, List.forall_mem_cons.mpr ⟨kc18, List.forall_mem_cons.mpr ⟨kc19, List.forall_mem_cons.mpr ⟨kc20, List.forall_mem_cons.mpr ⟨kc21, List.forall_mem_cons.mpr ⟨kc22, List.forall_mem_cons.mpr ⟨kc23, List.forall_mem_cons.mpr ⟨kc24, List.forall_mem_cons.mpr ⟨kc25, List.forall_mem_cons.mpr ⟨kc26, List.forall_mem_cons.mpr ⟨kc27, List.forall_mem_cons.mpr ⟨kc28, List.forall_mem_cons.mpr ⟨kc29, List.forall_mem_cons.mpr ⟨kc30, List.forall_mem_cons.mpr ⟨kc31, List.forall_mem_cons.mpr ⟨kc32, List.forall_mem_cons.mpr ⟨kc33, List.forall_mem_cons.mpr ⟨kc34, List.forall_mem_cons.mpr ⟨kc35, List.forall_mem_cons.mpr ⟨kc36, List.forall_mem_cons.mpr ⟨kc37, List.forall_mem_cons.mpr ⟨kc38, List.forall_mem_cons.mpr ⟨kc39, List.forall_mem_cons.mpr ⟨kc40, List.forall_mem_cons.mpr ⟨kc41, List.forall_mem_cons.mpr ⟨kc42, List.forall_mem_cons.mpr ⟨kc43, List.forall_mem_cons.mpr ⟨kc44, List.forall_mem_cons.mpr ⟨kc45, List.forall_mem_cons.mpr ⟨kc46, List.forall_mem_cons.mpr ⟨kc47, List.forall_mem_cons.mpr ⟨kc48, List.forall_mem_cons.mpr ⟨kc49, (fun q h => absurd h List.not_mem_nil)⟩⟩⟩⟩⟩⟩⟩⟩⟩⟩⟩⟩⟩⟩⟩⟩⟩⟩⟩⟩⟩⟩⟩⟩⟩⟩⟩⟩⟩⟩⟩⟩⟩⟩⟩⟩⟩⟩⟩⟩⟩⟩⟩⟩⟩⟩⟩⟩⟩⟩
set_option maxRecDepth 100000 in
theorem kd1 : ∀ q ∈ mtab1.take 50, Cond.code q.1 q.2.1 q.2.2.1 q.2.2.2.1 ∈ lw_tbl := List.forall_mem_cons.mpr ⟨kc50, List.forall_mem_cons.mpr ⟨kc51, List.forall_mem_cons.mpr ⟨kc52, List.forall_mem_cons.mpr ⟨kc53, List.forall_mem_cons.mpr ⟨kc54, List.forall_mem_cons.mpr ⟨kc55, List.forall_mem_cons.mpr ⟨kc56, List.forall_mem_cons.mpr ⟨kc57, List.forall_mem_cons.mpr ⟨kc58, List.forall_mem_cons.mpr ⟨kc59, List.forall_mem_cons.mpr ⟨kc60, List.forall_mem_cons.mpr ⟨kc61, List.forall_mem_cons.mpr ⟨kc62, List.forall_mem_cons.mpr ⟨kc63, List.forall_mem_cons.mpr ⟨kc64, List.forall_mem_cons.mpr ⟨kc65, List.forall_mem_cons.mpr ⟨kc66, List.forall_mem_cons.mpr ⟨kc67, List.forall_mem_cons.mpr ⟨kc68, List.forall_mem_cons.mpr ⟨kc69, List.forall_mem_cons.mpr ⟨kc70, List.forall_mem_cons.mpr ⟨kc71, List.forall_mem_cons.mpr ⟨kc72, List.forall_mem_cons.mpr ⟨kc73, List.forall_mem_cons.mpr ⟨kc74, List.forall_mem_cons.mpr ⟨kc75, List.forall_mem_cons.mpr ⟨kc76, List.forall_mem_cons.mpr ⟨kc77, List.forall_mem_cons.mpr ⟨kc78, List.forall_mem_cons.mpr ⟨kc79, List.forall_mem_cons.mpr ⟨kc80, List.forall_mem_cons.mpr ⟨kc81, List.forall_mem_cons.mpr ⟨kc82, List.forall_mem_cons.mpr ⟨kc83, List.forall_mem_cons.mpr ⟨kc84, List.forall_mem_cons.mpr ⟨kc85, List.forall_mem_cons.mpr ⟨kc86, List.forall_mem_cons.mpr ⟨kc87, List.forall_mem_cons.mpr ⟨kc88, List.forall_mem_cons.mpr ⟨kc89, List.forall_mem_cons.mpr ⟨kc90, List.forall_mem_cons.mpr ⟨kc91, List.forall_mem_cons.mpr ⟨kc92, List.forall_mem_cons.mpr ⟨kc93, List.forall_mem_cons.mpr ⟨kc94, List.forall_mem_cons.mpr ⟨kc95, List.forall_mem_cons.mpr ⟨kc96, List.forall_mem_cons.mpr ⟨kc97, List.forall_mem_cons.mpr ⟨kc98, List.forall_mem_cons.mpr ⟨kc99, (fun q h => absurd h List.not_mem_nil)⟩⟩⟩⟩⟩⟩⟩⟩⟩⟩⟩⟩⟩⟩⟩⟩⟩⟩⟩⟩⟩⟩⟩⟩⟩⟩⟩⟩⟩⟩⟩⟩⟩⟩⟩⟩⟩⟩⟩⟩⟩⟩⟩⟩⟩⟩⟩⟩⟩⟩
set_option maxRecDepth 100000 in
theorem kd2 : ∀ q ∈ mtab2.take 50, Cond.code q.1 q.2.1 q.2.2.1 q.2.2.2.1 ∈ lw_tbl := List.forall_mem_cons.mpr ⟨kc100, List.forall_mem_cons.mpr ⟨kc101, List.forall_mem_cons.mpr ⟨kc102, List.forall_mem_cons.mpr ⟨kc103, List.forall_mem_cons.mpr ⟨kc104, List.forall_mem_cons.mpr ⟨kc105, List.forall_mem_cons.mpr ⟨kc106, List.forall_mem_cons.mpr ⟨kc107, List.forall_mem_cons.mpr ⟨kc108, List.forall_mem_cons.mpr ⟨kc109, List.forall_mem_cons.mpr ⟨kc110, List.forall_mem_cons.mpr ⟨kc111, List.forall_mem_cons.mpr ⟨kc112, List.forall_mem_cons.mpr ⟨kc113, List.forall_mem_cons.mpr ⟨kc114, List.forall_mem_cons.mpr ⟨kc115, List.forall_mem_cons.mpr ⟨kc116, List.forall_mem_cons.mpr ⟨kc117, List.forall_mem_cons.mpr ⟨kc118, List.forall_mem_cons.mpr ⟨kc119, List.forall_mem_cons.mpr ⟨kc120, List.forall_mem_cons.mpr ⟨kc121, List.forall_mem_cons.mpr ⟨kc122, List.forall_mem_cons.mpr ⟨kc123, List.forall_mem_cons.mpr ⟨kc124, List.forall_mem_cons.mpr ⟨kc125, List.forall_mem_cons.mpr ⟨kc126, List.forall_mem_cons.mpr ⟨kc127, List.forall_mem_cons.mpr ⟨kc128, List.forall_mem_cons.mpr ⟨kc129, List.forall_mem_cons.mpr ⟨kc130, List.forall_mem_cons.mpr ⟨kc131, List.forall_mem_cons.mpr ⟨kc132, List.forall_mem_cons.mpr ⟨kc133, List.forall_mem_cons.mpr ⟨kc134, List.forall_mem_cons.mpr ⟨kc135, List.forall_mem_cons.mpr ⟨kc136, List.forall_mem_cons.mpr ⟨kc137, List.forall_mem_cons.mpr ⟨kc138, List.forall_mem_cons.mpr ⟨kc139, List.forall_mem_cons.mpr ⟨kc140, List.forall_mem_cons.mpr ⟨kc141, List.forall_mem_cons.mpr ⟨kc142, List.forall_mem_cons.mpr ⟨kc143, List.forall_mem_cons.mpr ⟨kc144, List.forall_mem_cons.mpr ⟨kc145, List.forall_mem_cons.mpr ⟨kc146, List.forall_mem_cons.mpr ⟨kc147, List.forall_mem_cons.mpr ⟨kc148, List.forall_mem_cons.mpr ⟨kc149, (fun q h => absurd h List.not_mem_nil)⟩⟩⟩⟩⟩⟩⟩⟩⟩⟩⟩⟩⟩⟩⟩⟩⟩⟩⟩⟩⟩⟩⟩⟩⟩⟩⟩⟩⟩⟩⟩⟩⟩⟩⟩⟩⟩⟩⟩⟩⟩⟩⟩⟩⟩⟩⟩⟩⟩⟩
set_option maxRecDepth 100000 in
theorem kd3 : ∀ q ∈ mtab3.take 50, Cond.code q.1 q.2.1 q.2.2.1 q.2.2.2.1 ∈ lw_tbl := List.forall_mem_cons.mpr ⟨kc150, List.forall_mem_cons.mpr ⟨kc151, List.forall_mem_cons.mpr ⟨kc152, List.forall_mem_cons.mpr ⟨kc153, List.forall_mem_cons.mpr ⟨kc154, List.forall_mem_cons.mpr ⟨kc155, List.forall_mem_cons.mpr ⟨kc156, List.forall_mem_cons.mpr ⟨kc157, List.forall_mem_cons.mpr ⟨kc158, List.forall_mem_cons.mpr ⟨kc159, List.forall_mem_cons.mpr ⟨kc160, List.forall_mem_cons.mpr ⟨kc161, List.forall_mem_cons.mpr ⟨kc162, List.forall_mem_cons.mpr ⟨kc163, List.forall_mem_cons.mpr ⟨kc164, List.forall_mem_cons.mpr ⟨kc165, List.forall_mem_cons.mpr ⟨kc166, List.forall_mem_cons.mpr ⟨kc167, List.forall_mem_cons.mpr ⟨kc168, List.forall_mem_cons.mpr ⟨kc169, List.forall_mem_cons.mpr ⟨kc170, List.forall_mem_cons.mpr ⟨kc171, List.forall_mem_cons.mpr ⟨kc172, List.forall_mem_cons.mpr ⟨kc173, List.forall_mem_cons.mpr ⟨kc174, List.forall_mem_cons.mpr ⟨kc175, List.forall_mem_cons.mpr ⟨kc176, List.forall_mem_cons.mpr ⟨kc177, List.forall_mem_cons.mpr ⟨kc178, List.forall_mem_cons.mpr ⟨kc179, List.forall_mem_cons.mpr ⟨kc180, List.forall_mem_cons.mpr ⟨kc181, List.forall_mem_cons.mpr ⟨kc182, List.forall_mem_cons.mpr ⟨kc183, List.forall_mem_cons.mpr ⟨kc184, List.forall_mem_cons.mpr ⟨kc185, List.forall_mem_cons.mpr ⟨kc186, List.forall_mem_cons.mpr ⟨kc187, List.forall_mem_cons.mpr ⟨kc188, List.forall_mem_cons.mpr ⟨kc189, List.forall_mem_cons.mpr ⟨kc190, List.forall_mem_cons.mpr ⟨kc191, List.forall_mem_cons.mpr ⟨kc192, List.forall_mem_cons.mpr ⟨kc193, List.forall_mem_cons.mpr ⟨kc194, List.forall_mem_cons.mpr ⟨kc195, List.forall_mem_cons.mpr ⟨kc196, List.forall_mem_cons.mpr ⟨kc197, List.forall_mem_cons.mpr ⟨kc198, List.forall_mem_cons.mpr ⟨kc199, (fun q h => absurd h List.not_mem_nil)⟩⟩⟩⟩⟩⟩⟩⟩⟩⟩⟩⟩⟩⟩⟩⟩⟩⟩⟩⟩⟩⟩⟩⟩⟩⟩⟩⟩⟩⟩⟩⟩⟩⟩⟩⟩⟩⟩⟩⟩⟩⟩⟩⟩⟩⟩⟩⟩⟩⟩
set_option maxRecDepth 100000 in
theorem kd4 : ∀ q ∈ mtab4.take 50, Cond.code q.1 q.2.1 q.2.2.1 q.2.2.2.1 ∈ lw_tbl := List.forall_mem_cons.mpr ⟨kc200, List.forall_mem_cons.mpr ⟨kc201, List.forall_mem_cons.mpr ⟨kc202, List.forall_mem_cons.mpr ⟨kc203, List.forall_mem_cons.mpr ⟨kc204, List.forall_mem_cons.mpr ⟨kc205, List.forall_mem_cons.mpr ⟨kc206, List.forall_mem_cons.mpr ⟨kc207, List.forall_mem_cons.mpr ⟨kc208, List.forall_mem_cons.mpr ⟨kc209, List.forall_mem_cons.mpr ⟨kc210, List.forall_mem_cons.mpr ⟨kc211, List.forall_mem_cons.mpr ⟨kc212, List.forall_mem_cons.mpr ⟨kc213, List.forall_mem_cons.mpr ⟨kc214, List.forall_mem_cons.mpr ⟨kc215, List.forall_mem_cons.mpr ⟨kc216, List.forall_mem_cons.mpr ⟨kc217, List.forall_mem_cons.mpr ⟨kc218, List.forall_mem_cons.mpr ⟨kc219, List.forall_mem_cons.mpr ⟨kc220, List.forall_mem_cons.mpr ⟨kc221, List.forall_mem_cons.mpr ⟨kc222, List.forall_mem_cons.mpr ⟨kc223, List.forall_mem_cons.mpr ⟨kc224, List.forall_mem_cons.mpr ⟨kc225, List.forall_mem_cons.mpr ⟨kc226, List.forall_mem_cons.mpr ⟨kc227, List.forall_mem_cons.mpr ⟨kc228, List.forall_mem_cons.mpr ⟨kc229, List.forall_mem_cons.mpr ⟨kc230, List.forall_mem_cons.mpr ⟨kc231, List.forall_mem_cons.mpr ⟨kc232, List.forall_mem_cons.mpr ⟨kc233, List.forall_mem_cons.mpr ⟨kc234, List.forall_mem_cons.mpr ⟨kc235, List.forall_mem_cons.mpr ⟨kc236, List.forall_mem_cons.mpr ⟨kc237, List.forall_mem_cons.mpr ⟨kc238, List.forall_mem_cons.mpr ⟨kc239, List.forall_mem_cons.mpr ⟨kc240, List.forall_mem_cons.mpr ⟨kc241, List.forall_mem_cons.mpr ⟨kc242, List.forall_mem_cons.mpr ⟨kc243, List.forall_mem_cons.mpr ⟨kc244, List.forall_mem_cons.mpr ⟨kc245, List.forall_mem_cons.mpr ⟨kc246, List.forall_mem_cons.mpr ⟨kc247, List.forall_mem_cons.mpr ⟨kc248, List.forall_mem_cons.mpr ⟨kc249, (fun q h => absurd h List.not_mem_nil)⟩⟩⟩⟩⟩⟩⟩⟩⟩⟩⟩⟩⟩⟩⟩⟩⟩⟩⟩⟩⟩⟩⟩⟩⟩⟩⟩⟩⟩⟩⟩⟩⟩⟩⟩⟩⟩⟩⟩⟩⟩⟩⟩⟩⟩⟩⟩⟩⟩⟩
set_option maxRecDepth 100000 in
theorem kd5 : ∀ q ∈ mtab5.take 41, Cond.code q.1 q.2.1 q.2.2.1 q.2.2.2.1 ∈ lw_tbl := List.forall_mem_cons.mpr ⟨kc250, List.forall_mem_cons.mpr ⟨kc251, List.forall_mem_cons.mpr ⟨kc252, List.forall_mem_cons.mpr ⟨kc253, List.forall_mem_cons.mpr ⟨kc254, List.forall_mem_cons.mpr ⟨kc255, List.forall_mem_cons.mpr ⟨kc256, List.forall_mem_cons.mpr ⟨kc257, List.forall_mem_cons.mpr ⟨kc258, List.forall_mem_cons.mpr ⟨kc259, List.forall_mem_cons.mpr ⟨kc260, List.forall_mem_cons.mpr ⟨kc261, List.forall_mem_cons.mpr ⟨kc262, List.forall_mem_cons.mpr ⟨kc263, List.forall_mem_cons.mpr ⟨kc264, List.forall_mem_cons.mpr ⟨kc265, List.forall_mem_cons.mpr ⟨kc266, List.forall_mem_cons.mpr ⟨kc267, List.forall_mem_cons.mpr ⟨kc268, List.forall_mem_cons.mpr ⟨kc269, List.forall_mem_cons.mpr ⟨kc270, List.forall_mem_cons.mpr ⟨kc271, List.forall_mem_cons.mpr ⟨kc272, List.forall_mem_cons.mpr ⟨kc273, List.forall_mem_cons.mpr ⟨kc274, List.forall_mem_cons.mpr ⟨kc275, List.forall_mem_cons.mpr ⟨kc276, List.forall_mem_cons.mpr ⟨kc277, List.forall_mem_cons.mpr ⟨kc278, List.forall_mem_cons.mpr ⟨kc279, List.forall_mem_cons.mpr ⟨kc280, List.forall_mem_cons.mpr ⟨kc281, List.forall_mem_cons.mpr ⟨kc282, List.forall_mem_cons.mpr ⟨kc283, List.forall_mem_cons.mpr ⟨kc284, List.forall_mem_cons.mpr ⟨kc285, List.forall_mem_cons.mpr ⟨kc286, List.forall_mem_cons.mpr ⟨kc287, List.forall_mem_cons.mpr ⟨kc288, List.forall_mem_cons.mpr ⟨kc289, List.forall_mem_cons.mpr ⟨kc290, (fun q h => absurd h List.not_mem_nil)⟩⟩⟩⟩⟩⟩⟩⟩⟩⟩⟩⟩⟩⟩⟩⟩⟩⟩⟩⟩⟩⟩⟩⟩⟩⟩⟩⟩⟩⟩⟩⟩⟩⟩⟩⟩⟩⟩⟩⟩⟩
theorem code_at : ∀ c j : Nat, 50 * c + j < nMet → j < 50 → (fun q : mrow => Cond.code q.1 q.2.1 q.2.2.1 q.2.2.2.1 ∈ lw_tbl) ((mtabs.getD c []).getD j mrow0) := by
  intro c j h hj
  have hc : c < 6 := by unfold nMet at h; omega
  have key : ∀ (l : List mrow) (n : Nat), (∀ q ∈ l.take n, Cond.code q.1 q.2.1 q.2.2.1 q.2.2.2.1 ∈ lw_tbl) → n ≤ l.length → j < n → (fun q : mrow => Cond.code q.1 q.2.1 q.2.2.1 q.2.2.2.1 ∈ lw_tbl) (l.getD j mrow0) := by
    intro l n h1 h2 h3
    have h4 : j < (l.take n).length := by rw [List.length_take]; omega
    have h5 := h1 _ (List.getElem_mem h4)
    rw [List.getElem_take] at h5
    rw [List.getD_eq_getElem?_getD, List.getElem?_eq_getElem (by omega)]
    exact h5
  unfold nMet at h
  rcases (show c = 0 ∨ c = 1 ∨ c = 2 ∨ c = 3 ∨ c = 4 ∨ c = 5 by omega) with rfl | rfl | rfl | rfl | rfl | rfl
  · exact key mtab0 50 kd0 (Nat.le_of_ble_eq_true rfl) (by omega)
  · exact key mtab1 50 kd1 (Nat.le_of_ble_eq_true rfl) (by omega)
  · exact key mtab2 50 kd2 (Nat.le_of_ble_eq_true rfl) (by omega)
  · exact key mtab3 50 kd3 (Nat.le_of_ble_eq_true rfl) (by omega)
  · exact key mtab4 50 kd4 (Nat.le_of_ble_eq_true rfl) (by omega)
  · exact key mtab5 41 kd5 (Nat.le_of_ble_eq_true rfl) (by omega)
theorem code_k {k : Nat} (h : k < nMet) : Cond.code (mname k) (mcode k) (mmaxl k) (mret k) ∈ lw_tbl := code_at (k / 50) (k % 50) (by rw [Nat.div_add_mod]; exact h) (Nat.mod_lt _ (by decide))
def chkF (c0 : Nat) (idx c j pos g : Nat) : Bool := match cks[c]? with
  | some q => decide (j < q.2.2) && tb_at pos (Cond.fieldLink (cn c0) idx (q.2.1 j).1 (q.2.1 j).2.1 (q.2.1 j).2.2.1) && decide ((q.2.1 j).1 = q.1) && decide (q.1 = cn c) && decide (ft c j = g) && decide ((q.2.1 j).2.2.2 = fn c j) &&
    (match g with
    | 1 => decide ((q.2.1 j).2.2.1 = "I")
    | 2 => decide ((q.2.1 j).2.2.1 = "Z")
    | _ => match parseFieldDescriptor (q.2.1 j).2.2.1 with
      | some (.object _) => true
      | some (.array _) => true
      | _ => false)
  | none => false
def chkP (c0 : Nat) (r : prow) : Bool := match r.2.1 with
  | (1, c, j) => chkF c0 r.1 c j r.2.2 1
  | (2, c, j) => chkF c0 r.1 c j r.2.2 2
  | (3, c, j) => chkF c0 r.1 c j r.2.2 3
  | (4, y, n) => decide (y < nMet) && tb_at r.2.2 (Cond.methodLink (cn c0) r.1 (mname y)) && decide (nPar (mname y).desc = some n)
  | (5, c, n) => match cks[c]? with
    | some q => decide (n = q.2.2) && decide (q.1 = cn c) && tb_at r.2.2 (Cond.classLink (cn c0) r.1 q.1)
    | none => false
  | (6, _, _) => tb_at r.2.2 (Cond.methodLink (cn c0) r.1 arraycopyName)
  | (7, _, _) => tb_at r.2.2 (Cond.methodLink (cn c0) r.1 objectInit)
  | (8, _, _) => tb_at r.2.2 (Cond.methodLink (cn c0) r.1 Lib.Math.max.name)
  | (9, _, _) => tb_at r.2.2 (Cond.methodLink (cn c0) r.1 Lib.Math.min.name)
  | (10, _, _) => tb_at r.2.2 (Cond.methodLink (cn c0) r.1 Lib.Math.abs.name)
  | (11, _, _) => tb_at r.2.2 (Cond.methodLink (cn c0) r.1 Lib.MathLoose.abs_long.x)
  | _ => false
theorem kp0 : ptab0.all (chkP 0) = true := by decide +kernel
theorem kp1 : ptab1.all (chkP 1) = true := by decide +kernel
theorem kp2 : ptab2.all (chkP 2) = true := by decide +kernel
theorem kp3 : ptab3.all (chkP 3) = true := by decide +kernel
theorem kp4 : ptab4.all (chkP 4) = true := by decide +kernel
theorem kp5 : ptab5.all (chkP 5) = true := by decide +kernel
theorem kp6 : ptab6.all (chkP 6) = true := by decide +kernel
theorem kp7 : ptab7.all (chkP 7) = true := by decide +kernel
theorem kp8 : ptab8.all (chkP 8) = true := by decide +kernel
theorem kp9 : ptab9.all (chkP 9) = true := by decide +kernel
theorem kp10 : ptab10.all (chkP 10) = true := by decide +kernel
theorem kp11 : ptab11.all (chkP 11) = true := by decide +kernel
theorem kp12 : ptab12.all (chkP 12) = true := by decide +kernel
theorem kp13 : ptab13.all (chkP 13) = true := by decide +kernel
theorem kp14 : ptab14.all (chkP 14) = true := by decide +kernel
theorem kp15 : ptab15.all (chkP 15) = true := by decide +kernel
theorem chkP_c {c : Nat} {r : prow} (h : r ∈ ptabs.getD c []) : chkP c r = true := by
  have hc : c < 16 := by
    rcases Nat.lt_or_ge c 16 with q | q
    · exact q
    · rw [List.getD_eq_getElem?_getD, List.getElem?_eq_none (show ptabs.length ≤ c from q)] at h; cases h
  rcases (show c = 0 ∨ c = 1 ∨ c = 2 ∨ c = 3 ∨ c = 4 ∨ c = 5 ∨ c = 6 ∨ c = 7 ∨ c = 8 ∨ c = 9 ∨ c = 10 ∨ c = 11 ∨ c = 12 ∨ c = 13 ∨ c = 14 ∨ c = 15 by omega) with rfl | rfl | rfl | rfl | rfl | rfl | rfl | rfl | rfl | rfl | rfl | rfl | rfl | rfl | rfl | rfl
  · exact List.all_eq_true.mp kp0 r h
  · exact List.all_eq_true.mp kp1 r h
  · exact List.all_eq_true.mp kp2 r h
  · exact List.all_eq_true.mp kp3 r h
  · exact List.all_eq_true.mp kp4 r h
  · exact List.all_eq_true.mp kp5 r h
  · exact List.all_eq_true.mp kp6 r h
  · exact List.all_eq_true.mp kp7 r h
  · exact List.all_eq_true.mp kp8 r h
  · exact List.all_eq_true.mp kp9 r h
  · exact List.all_eq_true.mp kp10 r h
  · exact List.all_eq_true.mp kp11 r h
  · exact List.all_eq_true.mp kp12 r h
  · exact List.all_eq_true.mp kp13 r h
  · exact List.all_eq_true.mp kp14 r h
  · exact List.all_eq_true.mp kp15 r h
theorem chkC_all : (List.range ctabs.length).all (fun c0 => (ctabs.getD c0 []).all (fun r => tb_at r.2.2 (Cond.constant (cn c0) r.1 (Int32.ofInt r.2.1)))) = true := by decide +kernel
theorem chkL_all : (List.range ltabs.length).all (fun c0 => (ltabs.getD c0 []).all (fun r => tb_at r.2.2 (Cond.constantLong (cn c0) r.1 (Int64.ofInt r.2.1)))) = true := by decide +kernel
/-- a class: its fields lie as the tables say, are apart by name, and have types -/
def chkK (c : Nat) : Bool := match cks[c]? with
  | some q => (u_ws q.1 q.2.1 q.2.2).all (fun w => goodWord w && decide (w ∈ lw_tbl)) && (List.range q.2.2).all (fun a => (List.range q.2.2).all (fun b => decide (a = b) || decide ((q.2.1 a).2.1 ≠ (q.2.1 b).2.1))) && (decide (Cond.instantiable q.1 q.2.2 ∈ lw_tbl) && goodWord (Cond.instantiable q.1 q.2.2)) && (decide (Cond.initialized q.1 ∈ lw_tbl) && goodWord (Cond.initialized q.1)) && decide (q.1 = cn c) &&
    (List.range q.2.2).all (fun a => match parseFieldDescriptor (q.2.1 a).2.2.1 with
    | some .int => decide (ft c a = 1)
    | some .boolean => decide (ft c a = 2)
    | some (.object _) => decide (ft c a = 3)
    | some (.array _) => decide (ft c a = 3)
    | _ => false)
  | none => false
theorem chkK_all : (List.range 13).all chkK = true := by decide +kernel
theorem cks_len : cks.length = 13 := rfl
theorem tb_nat : Cond.native arraycopyName ∈ gtl := tb_in (i := 2161) (by decide +kernel)
theorem tb_acs : Cond.static arraycopyName ∈ gtl := tb_in (i := 2160) (by decide +kernel)
theorem tb_sys : Cond.initialized "java/lang/System" ∈ gtl := tb_in (i := 1015) (by decide +kernel)
theorem tb_obi : Cond.instanceMethod objectInit ∈ gtl := tb_in (i := 1023) (by decide +kernel)
theorem tb_obc : Cond.code objectInit ⟨#[0xb1]⟩ 1 none ∈ gtl := tb_in (i := 1024) (by decide +kernel)
theorem tb_ai : Cond.arrayClass .int ∈ gtl := tb_in (i := 1071) (by decide +kernel)
theorem tb_az : Cond.arrayClass .boolean ∈ gtl := tb_in (i := 1072) (by decide +kernel)
theorem tb_ao : Cond.arrayOver (.object rk10) ∈ lw_tbl := lwc_in (l := tables_1_1) (List.mem_of_getElem? (i := 1) rfl) (List.mem_of_getElem? (i := 183) (by decide +kernel))
theorem tb_mi : Cond.initialized "java/lang/Math" ∈ gtl := tb_in (i := 1016) (by decide +kernel)
theorem tb_mmax : Cond.static Lib.Math.max.name ∈ gtl := tb_in (i := 3021) (by decide +kernel)
theorem tb_mmaxc : Cond.code Lib.Math.max.name Lib.Math.max.code 2 (some .int) ∈ gtl := tb_in (i := 3022) (by decide +kernel)
theorem tb_mmin : Cond.static Lib.Math.min.name ∈ gtl := tb_in (i := 2173) (by decide +kernel)
theorem tb_mminc : Cond.code Lib.Math.min.name Lib.Math.min.code 2 (some .int) ∈ gtl := tb_in (i := 2174) (by decide +kernel)
theorem tb_mabs : Cond.static Lib.Math.abs.name ∈ gtl := tb_in (i := 3018) (by decide +kernel)
theorem tb_mabsc : Cond.code Lib.Math.abs.name Lib.Math.abs.code 1 (some .int) ∈ gtl := tb_in (i := 3019) (by decide +kernel)
theorem tb_mabsl : Cond.static Lib.MathLoose.abs_long.x ∈ gtl := tb_in (i := 5002) (by decide +kernel)
theorem tb_mabslc : Cond.code Lib.MathLoose.abs_long.x Lib.MathLoose.abs_long.code 2 (some .long) ∈ gtl := tb_in (i := 5003) (by decide +kernel)
theorem nfw : nativeFrameWords "java/lang/System" "arraycopy" 5 ≤ 20 := by decide +kernel
end
section
/-! whole numbers of the machine and of the small machine -/
theorem oi_eq {x y : Int} (h : (x - y) % 4294967296 = 0) : Int32.ofInt x = Int32.ofInt y := by
  apply Int32.toInt_inj.mp
  rw [Int32.toInt_ofInt, Int32.toInt_ofInt]
  simp only [Int.bmod, Int32.size]
  omega
theorem oi_w (x : Int) : Int32.ofInt (wI x) = Int32.ofInt x := oi_eq (by unfold wI; omega)
theorem oi_add (x y : Int) : Int32.ofInt x + Int32.ofInt y = Int32.ofInt (wI (x + y)) := by rw [oi_w, Int32.ofInt_add]
theorem oi_sub (x y : Int) : Int32.ofInt x - Int32.ofInt y = Int32.ofInt (wI (x - y)) := by rw [oi_w, Int32.ofInt_sub]
theorem oi_mul (x y : Int) : Int32.ofInt x * Int32.ofInt y = Int32.ofInt (wI (x * y)) := by rw [oi_w, Int32.ofInt_mul]
theorem oi_neg (x : Int) : -Int32.ofInt x = Int32.ofInt (wI (-x)) := by rw [oi_w, Int32.ofInt_neg]
theorem oi_to {x : Int} (h : inI x) : (Int32.ofInt x).toInt = x := by
  rw [Int32.toInt_ofInt]
  unfold inI at h
  simp only [Int.bmod, Int32.size]
  omega
theorem oi_in (x : Int32) : inI x.toInt := ⟨Int32.le_toInt x, Int32.toInt_lt x⟩
theorem oi_of (x : Int32) : Int32.ofInt x.toInt = x := Int32.ofInt_toInt x
theorem oi_0 : Int32.ofInt 0 = 0 := by decide +kernel
theorem oi_lt {x y : Int} (hx : inI x) (hy : inI y) : Int32.ofInt x < Int32.ofInt y ↔ x < y := by rw [Int32.lt_iff_toInt_lt, oi_to hx, oi_to hy]
theorem oi_le {x y : Int} (hx : inI x) (hy : inI y) : Int32.ofInt x ≤ Int32.ofInt y ↔ x ≤ y := by rw [Int32.le_iff_toInt_le, oi_to hx, oi_to hy]
theorem oi_inj {x y : Int} (hx : inI x) (hy : inI y) : Int32.ofInt x = Int32.ofInt y ↔ x = y := by
  constructor
  · intro h
    have := congrArg Int32.toInt h
    rwa [oi_to hx, oi_to hy] at this
  · intro h
    rw [h]
theorem oi_n0 {y : Int} (hy : inI y) (h : y ≠ 0) : ¬ Int32.ofInt y = 0 := fun q => h ((oi_inj hy ⟨by decide, by decide⟩).mp (q.trans oi_0.symm))
theorem oi_div {x y : Int} (hx : inI x) (hy : inI y) : Int32.ofInt x / Int32.ofInt y = Int32.ofInt (wI (x.tdiv y)) := by
  apply Int32.toInt_inj.mp
  rw [Int32.toInt_div, oi_to hx, oi_to hy, oi_w, Int32.toInt_ofInt]
theorem oi_rem {x y : Int} (hx : inI x) (hy : inI y) : Int32.ofInt x - Int32.ofInt x / Int32.ofInt y * Int32.ofInt y = Int32.ofInt (x.tmod y) := by
  rw [oi_div hx hy, oi_w, ← Int32.ofInt_mul, ← Int32.ofInt_sub, Int.tmod_def, Int.mul_comm]
theorem oi_tm {x y : Int} (hx : inI x) (h : y ≠ 0) (hy : inI y) : inI (x.tmod y) := by
  have h1 := Int.tmod_lt_of_pos x (b := ((y.natAbs : Nat) : Int)) (by omega)
  have h2 := Int.lt_tmod_of_pos x (b := ((y.natAbs : Nat) : Int)) (by omega)
  have e : x.tmod y = x.tmod ((y.natAbs : Nat) : Int) := by
    rcases Int.natAbs_eq y with q | q
    · rw [← q]
    · have : ((y.natAbs : Nat) : Int) = -y := by omega
      rw [this, Int.tmod_neg]
  unfold inI at *
  omega
theorem oL_eq {x y : Int} (h : (x - y) % 18446744073709551616 = 0) : Int64.ofInt x = Int64.ofInt y := by
  apply Int64.toInt_inj.mp
  rw [Int64.toInt_ofInt, Int64.toInt_ofInt]
  simp only [Int.bmod, Int64.size]
  omega
theorem oL_w (x : Int) : Int64.ofInt (wL x) = Int64.ofInt x := oL_eq (by unfold wL; omega)
theorem oL_add (x y : Int) : Int64.ofInt x + Int64.ofInt y = Int64.ofInt (wL (x + y)) := by rw [oL_w, Int64.ofInt_add]
theorem oL_sub (x y : Int) : Int64.ofInt x - Int64.ofInt y = Int64.ofInt (wL (x - y)) := by rw [oL_w, Int64.ofInt_sub]
theorem oL_mul (x y : Int) : Int64.ofInt x * Int64.ofInt y = Int64.ofInt (wL (x * y)) := by rw [oL_w, Int64.ofInt_mul]
theorem oL_neg (x : Int) : -Int64.ofInt x = Int64.ofInt (wL (-x)) := by rw [oL_w, Int64.ofInt_neg]
theorem oL_to {x : Int} (h : inL x) : (Int64.ofInt x).toInt = x := by
  rw [Int64.toInt_ofInt]
  unfold inL at h
  simp only [Int.bmod, Int64.size]
  omega
theorem oL_in (x : Int64) : inL x.toInt := ⟨Int64.le_toInt x, Int64.toInt_lt x⟩
theorem oL_of (x : Int64) : Int64.ofInt x.toInt = x := Int64.ofInt_toInt x
theorem oL_0 : Int64.ofInt 0 = 0 := by decide +kernel
theorem oL_lt {x y : Int} (hx : inL x) (hy : inL y) : Int64.ofInt x < Int64.ofInt y ↔ x < y := by rw [Int64.lt_iff_toInt_lt, oL_to hx, oL_to hy]
theorem oL_inj {x y : Int} (hx : inL x) (hy : inL y) : Int64.ofInt x = Int64.ofInt y ↔ x = y := by
  constructor
  · intro h
    have := congrArg Int64.toInt h
    rwa [oL_to hx, oL_to hy] at this
  · intro h
    rw [h]
theorem oL_n0 {y : Int} (hy : inL y) (h : y ≠ 0) : ¬ Int64.ofInt y = 0 := fun q => h ((oL_inj hy ⟨by decide, by decide⟩).mp (q.trans oL_0.symm))
theorem oL_div {x y : Int} (hx : inL x) (hy : inL y) : Int64.ofInt x / Int64.ofInt y = Int64.ofInt (wL (x.tdiv y)) := by
  apply Int64.toInt_inj.mp
  rw [Int64.toInt_div, oL_to hx, oL_to hy, oL_w, Int64.toInt_ofInt]
theorem oL_rem {x y : Int} (hx : inL x) (hy : inL y) : Int64.ofInt x - Int64.ofInt x / Int64.ofInt y * Int64.ofInt y = Int64.ofInt (x.tmod y) := by
  rw [oL_div hx hy, oL_w, ← Int64.ofInt_mul, ← Int64.ofInt_sub, Int.tmod_def, Int.mul_comm]
theorem oL_tm {x y : Int} (hx : inL x) (h : y ≠ 0) (hy : inL y) : inL (x.tmod y) := by
  have h1 := Int.tmod_lt_of_pos x (b := ((y.natAbs : Nat) : Int)) (by omega)
  have h2 := Int.lt_tmod_of_pos x (b := ((y.natAbs : Nat) : Int)) (by omega)
  have e : x.tmod y = x.tmod ((y.natAbs : Nat) : Int) := by
    rcases Int.natAbs_eq y with q | q
    · rw [← q]
    · have : ((y.natAbs : Nat) : Int) = -y := by omega
      rw [this, Int.tmod_neg]
  unfold inL at *
  omega
theorem oi_l {x : Int} (h : inI x) : (Int32.ofInt x).toInt64 = Int64.ofInt x := by
  apply Int64.toInt_inj.mp
  rw [Int32.toInt_toInt64, oi_to h, oL_to (by unfold inI at h; unfold inL; omega)]
theorem oL_i {x : Int} (h : inL x) : (Int64.ofInt x).toInt32 = Int32.ofInt (wI x) := by
  apply Int32.toInt_inj.mp
  rw [oi_w, Int32.toInt_ofInt, Int64.toInt_toInt32, oL_to h]
theorem oi_cl {i : Int} (h : inI i) : (Int32.ofInt i).toNatClampNeg = i.toNat := by
  show (Int32.ofInt i).toInt.toNat = i.toNat
  rw [oi_to h]
theorem oi_nn {i : Int} (h : inI i) (h0 : 0 ≤ i) : ¬ Int32.ofInt i < 0 := by
  rw [← oi_0, oi_lt h ⟨by decide, by decide⟩]
  omega
theorem oi_ix {i : Int} {n : Nat} (h : inI i) (h0 : 0 ≤ i) (h1 : i < (n : Int)) : ¬ (Int32.ofInt i < 0 ∨ n ≤ (Int32.ofInt i).toNatClampNeg) := by
  rw [oi_cl h]
  intro q
  rcases q with q | q
  · exact oi_nn h h0 q
  · omega
theorem oL_cm {x y : Int} (hx : inL x) (hy : inL y) : lg_cmp (Int64.ofInt x) (Int64.ofInt y) = Int32.ofInt (lCm x y) := by
  unfold lg_cmp lCm
  by_cases h : y < x
  · rw [if_pos ((oL_lt hy hx).mpr h), if_pos h]; decide +kernel
  · rw [if_neg (fun q => h ((oL_lt hy hx).mp q)), if_neg h]
    by_cases h2 : x = y
    · rw [if_pos ((oL_inj hx hy).mpr h2), if_pos h2]; decide +kernel
    · rw [if_neg (fun q => h2 ((oL_inj hx hy).mp q)), if_neg h2]; decide +kernel
/-! what a state of the small machine is in the machine -/
def mad (base b i : Nat) : Nat := if i = 0 then b else base + (i - 1)
def mrv (base b : Nat) : MV → Value
  | Sum.inl x => .int (Int32.ofInt x)
  | Sum.inr (Sum.inl x) => .long (Int64.ofInt x)
  | Sum.inr (Sum.inr r) => va_rf (r.map (mad base b))
def vok : MV → Prop
  | Sum.inl x => inI x
  | Sum.inr (Sum.inl x) => inL x
  | Sum.inr (Sum.inr _) => True
def LRel (base b : Nat) (lsr : Array Slot) (nL : Nat) (ls : List MV) : Prop := lsr.size = nL ∧ ls.length = nL ∧ lv_wf lsr ∧ ∀ (i : Nat) (v : MV), ls[i]? = some v → v ≠ vn → lsr[i]? = some (.val (mrv base b v))
def lvp (base b : Nat) (ls : List MV) : List (Nat × Value) := (List.range ls.length).filterMap fun i => match ls[i]? with
  | some v => if v = vn then none else some (i, mrv base b v)
  | none => none
theorem lvp_in {base b : Nat} {ls : List MV} {i : Nat} {v : MV} (h : ls[i]? = some v) (hv : v ≠ vn) : (i, mrv base b v) ∈ lvp base b ls := by
  have hi : i < ls.length := (List.getElem?_eq_some_iff.mp h).1
  refine List.mem_filterMap.mpr ⟨i, List.mem_range.mpr hi, ?_⟩
  simp only [h, if_neg hv]
theorem lvp_of {base b : Nat} {ls : List MV} {q : Nat × Value} (h : q ∈ lvp base b ls) : ∃ v, ls[q.1]? = some v ∧ v ≠ vn ∧ q.2 = mrv base b v := by
  obtain ⟨i, -, hi⟩ := List.mem_filterMap.mp h
  cases hl : ls[i]? with
  | none => rw [hl] at hi; cases hi
  | some v =>
    rw [hl] at hi
    dsimp only at hi
    by_cases hv : v = vn
    · rw [if_pos hv] at hi; cases hi
    · rw [if_neg hv] at hi
      cases hi
      exact ⟨v, hl, hv, rfl⟩
theorem LRel.has {base b : Nat} {lsr : Array Slot} {nL : Nat} {ls : List MV} (h : LRel base b lsr nL ls) : lv_has lsr nL (lvp base b ls) := by
  refine ⟨h.1, h.2.2.1, fun q hq => ?_⟩
  obtain ⟨v, h1, h2, h3⟩ := lvp_of hq
  rw [h3]
  exact h.2.2.2 q.1 v h1 h2
theorem mrv_cat2 {base b : Nat} {v : MV} (h : (mrv base b v).category = 2) : ∃ x, v = vl x := by
  match v with
  | Sum.inl x => cases h
  | Sum.inr (Sum.inl x) => exact ⟨x, rfl⟩
  | Sum.inr (Sum.inr none) => cases h
  | Sum.inr (Sum.inr (some a)) => cases h
theorem kl_len (ls : List MV) (i : Nat) : (kl ls i).length = ls.length := by
  unfold kl
  split
  · rw [List.length_set]
  · rfl
theorem kl_get {ls : List MV} {i j : Nat} {u : MV} (h : (kl ls i)[j]? = some u) (hu : u ≠ vn) : ls[j]? = some u ∧ (j = i - 1 → ∀ x, u ≠ vl x) := by
  unfold kl at h
  split at h
  · rename_i x hx
    rw [List.getElem?_set] at h
    by_cases hj : i - 1 = j
    · rw [if_pos hj] at h
      split at h
      · exact absurd (Option.some.inj h).symm hu
      · cases h
    · rw [if_neg hj] at h
      exact ⟨h, fun q => absurd q.symm hj⟩
  · rename_i hx
    refine ⟨h, fun q x hxu => ?_⟩
    subst q
    subst hxu
    exact hx x h
theorem LRel_st1 {base b : Nat} {lsr lsr2 : Array Slot} {nL i : Nat} {ls : List MV} {v : MV} {lv : List (Nat × Value)} (h : LRel base b lsr nL ls) (hi : i < ls.length) (hlv : ∀ q ∈ lvp base b ls, q ∈ lv)
    (h2 : lv_has lsr2 nL ((i, mrv base b v) :: lv.filter (fun q => !(q.1 == i) && !(q.1 + 1 == i && q.2.category == 2)))) : LRel base b lsr2 nL (st1 ls i v) := by
  refine ⟨h2.1, by unfold st1; rw [List.length_set, kl_len]; exact h.2.1, h2.2.1, fun j u hj hu => ?_⟩
  unfold st1 at hj
  rw [List.getElem?_set] at hj
  by_cases hij : i = j
  · rw [if_pos hij, if_pos (by rw [kl_len]; exact hij ▸ hi)] at hj
    cases hj
    subst hij
    exact h2.2.2 (i, _) List.mem_cons_self
  · rw [if_neg hij] at hj
    obtain ⟨h3, h4⟩ := kl_get hj hu
    refine h2.2.2 (j, mrv base b u) (List.mem_cons_of_mem _ (List.mem_filter.mpr ⟨hlv _ (lvp_in h3 hu), ?_⟩))
    have e1 : (j == i) = false := by simp; omega
    by_cases hc : j + 1 = i
    · have e2 : ((mrv base b u).category == 2) = false := by
        by_cases q : (mrv base b u).category = 2
        · obtain ⟨x, hx⟩ := mrv_cat2 q
          exact absurd hx (h4 (by omega) x)
        · simpa using q
      simp only [e1, e2, Bool.and_false, Bool.not_false, Bool.and_self]
    · have e2 : (j + 1 == i) = false := by simpa using hc
      simp only [e1, e2, Bool.false_and, Bool.not_false, Bool.and_self]
theorem LRel_st2 {base b : Nat} {lsr lsr2 : Array Slot} {nL i : Nat} {ls : List MV} {v : MV} (h : LRel base b lsr nL ls) (hi : i + 1 < ls.length)
    (h2 : lv_has lsr2 nL ((i, mrv base b v) :: (lvp base b ls).filter (fun q => !(q.1 == i) && (!(q.1 == i + 1) && !(q.1 + 1 == i && q.2.category == 2))))) : LRel base b lsr2 nL (st2 ls i v) := by
  refine ⟨h2.1, by unfold st2; rw [List.length_set, List.length_set, kl_len]; exact h.2.1, h2.2.1, fun j u hj hu => ?_⟩
  unfold st2 at hj
  rw [List.getElem?_set] at hj
  by_cases hij1 : i + 1 = j
  · rw [if_pos hij1] at hj
    split at hj
    · exact absurd (Option.some.inj hj).symm hu
    · cases hj
  · rw [if_neg hij1, List.getElem?_set] at hj
    by_cases hij : i = j
    · rw [if_pos hij, if_pos (by rw [kl_len]; omega)] at hj
      cases hj
      subst hij
      exact h2.2.2 (i, _) List.mem_cons_self
    · rw [if_neg hij] at hj
      obtain ⟨h3, h4⟩ := kl_get hj hu
      refine h2.2.2 (j, mrv base b u) (List.mem_cons_of_mem _ (List.mem_filter.mpr ⟨lvp_in h3 hu, ?_⟩))
      have e1 : (j == i) = false := by simp; omega
      have e3 : (j == i + 1) = false := by simp; omega
      by_cases hc : j + 1 = i
      · have e2 : ((mrv base b u).category == 2) = false := by
          by_cases q : (mrv base b u).category = 2
          · obtain ⟨x, hx⟩ := mrv_cat2 q
            exact absurd hx (h4 (by omega) x)
          · simpa using q
        simp only [e1, e2, e3, Bool.and_false, Bool.not_false, Bool.and_self]
      · have e2 : (j + 1 == i) = false := by simpa using hc
        simp only [e1, e2, e3, Bool.false_and, Bool.not_false, Bool.and_self]
end
section
/-! the heap of the small machine in the machine -/
def mfv (base b : Nat) (R : Nat → Nat → Option Nat) (I : Nat → Nat → Int) (c a j : Nat) : Value := if ft c j = 3 then va_rf ((R a j).map (mad base b)) else .int (Int32.ofInt (I a j))
def mcell (D : va_G) (cI cZ cW : ClassId) (base b : Nat) (K : Nat → Nat × Nat) (R : Nat → Nat → Option Nat) (I : Nat → Nat → Int) (a : Nat) (H : Heap) : Prop :=
  (∀ c, K a = (c, 0) → c < 13 → ∃ r : vw_C, cks[c]? = some r ∧ t_OB (base + (a - 1)) (D.1 c) r.2.2 (D.2 c) H (mfv base b R I c a)) ∧
  (∀ n, K a = (20, n) → H[base + (a - 1)]? = some (arrV cI n (fun j => .int (Int32.ofInt (I a j))))) ∧
  (∀ n, K a = (21, n) → H[base + (a - 1)]? = some (arrV cZ n (fun j => .int (Int32.ofInt (I a j))))) ∧
  (∀ n, K a = (22, n) → H[base + (a - 1)]? = some (arrV cW n (fun j => va_rf ((R a j).map (mad base b)))))
theorem mcell.kept {D : va_G} {cI cZ cW : ClassId} {base b a : Nat} {K K2 : Nat → Nat × Nat} {R R2 : Nat → Nat → Option Nat} {I I2 : Nat → Nat → Int} {H H2 : Heap} (h : mcell D cI cZ cW base b K R I a H)
    (hK : K2 a = K a) (hR : R2 a = R a) (hI : I2 a = I a) (hH : H2[base + (a - 1)]? = H[base + (a - 1)]?) : mcell D cI cZ cW base b K2 R2 I2 a H2 := by
  obtain ⟨h1, h2, h3, h4⟩ := h
  refine ⟨fun c hc hl => ?_, fun n hn => ?_, fun n hn => ?_, fun n hn => ?_⟩
  · obtain ⟨r, q1, q2⟩ := h1 c (hK ▸ hc) hl
    exact ⟨r, q1, (q2.kept hH).to (fun j _ => by unfold mfv; rw [hR, hI])⟩
  · rw [hH, h2 n (hK ▸ hn), hI]
  · rw [hH, h3 n (hK ▸ hn), hI]
  · rw [hH, h4 n (hK ▸ hn), hR]
/-- what holds of the small machine's heap by itself -/
def mok (L : Nat) (xs : Nat → Int32) (s : Nat) (K : Nat → Nat × Nat) (I : Nat → Nat → Int) : Prop := 1 ≤ s ∧ K 0 = (23, L) ∧ (∀ a, s ≤ a → K a = (99, 0)) ∧ (∀ a j, inI (I a j)) ∧ (∀ a n j, K a = (21, n) → I a j = 0 ∨ I a j = 1) ∧ (∀ j, j < L → I 0 j = (xs j).toInt) ∧ (∀ a, 1 ≤ a → (K a).1 ≠ 23) ∧ ∀ a, (K a).2 < 2147483648
def mHR (D : va_G) (cI cZ cW : ClassId) (base b L : Nat) (xs : Nat → Int32) (M : MM) (H : Heap) : Prop :=
  mok L xs M.1 M.2.2.1 M.2.2.2.2 ∧ base + M.1 = H.size + 1 ∧ b < base ∧ ∀ a, 1 ≤ a → a < M.1 → mcell D cI cZ cW base b M.2.2.1 M.2.2.2.1 M.2.2.2.2 a H
def mtys (cI cZ cW : ClassId) : List (ClassId × FieldType) := [(cI, .int), (cZ, .boolean), (cW, .object rk10)]
def mPic (D : va_G) (cI cZ cW : ClassId) (base b L : Nat) (xs : Nat → Int32) (M : MM) (U : State) : Prop := mHR D cI cZ cW base b L xs M U.heap ∧ va_K D cks (mtys cI cZ cW) U ∧ va_X b L xs U U.heap ∧ va_AO rk10 U
def mws (k : Nat) : List Cond := Cond.code (mname k) (mcode k) (mmaxl k) (mret k) :: gtl
def mrm (d mc ms : Nat) : Room := { frames := d, cells := mc, slots := ms, locals := 60 * d }
def mQc (D : va_G) (cI cZ cW : ClassId) (base b L : Nat) (xs : Nat → Int32) (r : Option MV) (M2 : MM) : Array Value → State → Outcome → State → Prop := fun _ _ o t => o = .returned (r.map (mrv base b)) ∧ mPic D cI cZ cW base b L xs M2 t ∧ ∀ v, r = some v → vok v
/-- the contract of a method of the small machine -/
def mMet (d k : Nat) (a : List MV) (M : MM) (r : Option MV) (M2 : MM) : Prop := ∀ (l : Launch) (D : va_G) (cI cZ cW : ClassId) (base b L : Nat) (xs : Nat → Int32), (∀ v ∈ a, vok v) →
  Met l (mname k) (mws k) (mrm d (M2.1 - M.1) (M2.2.1 - M.2.1)) (va_Pc (a.map (mrv base b)) (mPic D cI cZ cW base b L xs M)) (mQc D cI cZ cW base b L xs r M2) (M2.1 - M.1) (M2.2.1 - M.2.1) (fun q => base ≤ q)
/-- what stays through a method -/
def mFix (p : Program) (s : State) (m : MethodId) (args : Array Value) (meth : Method) (c : Code) (D : va_G) (cI cZ cW : ClassId) (base b k : Nat) : Prop :=
  p.tables.exec = Jvm.exec ∧ c.code = mcode k ∧ c.maxLocals = mmaxl k ∧ s.vm.findClass (cn (mcls k)) = some m.cls ∧ (∀ w ∈ gtl, w.before args s = true) ∧ va_K D cks (mtys cI cZ cW) s ∧ b < base ∧ ((mname k).name = "<init>" → meth.name = "<init>") ∧ va_AO rk10 s
/-- a state of the machine that is one of the small machine -/
def RS (D : va_G) (cI cZ cW : ClassId) (base b L : Nat) (xs : Nat → Int32) (s : State) (k cE sE : Nat) (Me : MM) (ls st : List MV) (M : MM) (lsr : Array Slot) (H : Heap) (locs : List Loc) (cells slots : Nat) : Prop :=
  LRel base b lsr (mmaxl k) ls ∧ (∀ v ∈ ls, vok v) ∧ (∀ v ∈ st, vok v) ∧ mHR D cI cZ cW base b L xs M H ∧ va_X b L xs s H ∧ (∀ q ∈ locs, base ≤ q.base) ∧ cells + (Me.1 - M.1) = cE ∧ slots + (Me.2.1 - M.2.1) = sE
def SimC (p : Program) (l : Launch) (e : Env) (RR : Room) (s : State) (m : MethodId) (args : Array Value) (below : List Frame) (meth : Method) (c : Code) (Q : State → Prop) (D : va_G) (cI cZ cW : ClassId) (base b L : Nat) (xs : Nat → Int32) (k cE sE : Nat) (Me : MM) (C : Nx) : Prop :=
  ∀ pc ls st M, C pc ls st M → (M.1 ≤ Me.1 ∧ M.2.1 ≤ Me.2.1) ∧ ∀ lsr H locs cells slots, RS D cI cZ cW base b L xs s k cE sE Me ls st M lsr H locs cells slots → W p l e RR s m args below meth c H locs cells slots Q (F0 m pc lsr (st.map (mrv base b)))
section SIM
variable {p : Program} {l : Launch} {e : Env} {RR : Room} {s : State} {m : MethodId} {args : Array Value} {below : List Frame} {meth : Method} {c : Code} {Q : State → Prop} {D : va_G} {cI cZ cW : ClassId} {base b L : Nat} {xs : Nat → Int32} {k cE sE : Nat} {Me : MM} {C : Nx}
variable {ls st : List MV} {M : MM} {lsr : Array Slot} {H : Heap} {locs : List Loc} {cells slots : Nat}
theorem RS.lo (h : RS D cI cZ cW base b L xs s k cE sE Me ls st M lsr H locs cells slots) {ls2 st2 : List MV} {lsr2 : Array Slot} (h1 : LRel base b lsr2 (mmaxl k) ls2) (h2 : ∀ v ∈ ls2, vok v) (h3 : ∀ v ∈ st2, vok v) : RS D cI cZ cW base b L xs s k cE sE Me ls2 st2 M lsr2 H locs cells slots := ⟨h1, h2, h3, h.2.2.2⟩
theorem RS.sk (h : RS D cI cZ cW base b L xs s k cE sE Me ls st M lsr H locs cells slots) {st2 : List MV} (h3 : ∀ v ∈ st2, vok v) : RS D cI cZ cW base b L xs s k cE sE Me ls st2 M lsr H locs cells slots := ⟨h.1, h.2.1, h3, h.2.2.2⟩
theorem RS.get (h : RS D cI cZ cW base b L xs s k cE sE Me ls st M lsr H locs cells slots) {i : Nat} {v : MV} (hi : ls[i]? = some v) (hv : v ≠ vn) : lsr[i]? = some (.val (mrv base b v)) := h.1.2.2.2 i v hi hv
theorem RS.lv (h : RS D cI cZ cW base b L xs s k cE sE Me ls st M lsr H locs cells slots) {i : Nat} {v : MV} (hi : ls[i]? = some v) : vok v := h.2.1 v (List.mem_of_getElem? hi)
theorem ok_set {ls : List MV} {i : Nat} {v : MV} (h : ∀ v ∈ ls, vok v) (hv : vok v) : ∀ u ∈ ls.set i v, vok u := fun u hu => by
  rcases List.mem_or_eq_of_mem_set hu with q | q
  · exact h u q
  · rw [q]; exact hv
theorem ok_kl {ls : List MV} {i : Nat} (h : ∀ v ∈ ls, vok v) : ∀ u ∈ kl ls i, vok u := by
  unfold kl
  split
  · exact ok_set h trivial
  · exact h
theorem ok_st1 {ls : List MV} {i : Nat} {v : MV} (h : ∀ v ∈ ls, vok v) (hv : vok v) : ∀ u ∈ st1 ls i v, vok u := ok_set (ok_kl h) hv
theorem ok_st2 {ls : List MV} {i : Nat} {v : MV} (h : ∀ v ∈ ls, vok v) (hv : vok v) : ∀ u ∈ st2 ls i v, vok u := ok_set (ok_set (ok_kl h) hv) trivial
theorem ok_2 {x y : MV} {t : List MV} (h : ∀ v ∈ y :: x :: t, vok v) : vok y ∧ vok x ∧ ∀ v ∈ t, vok v := ⟨h _ List.mem_cons_self, h _ (List.mem_cons_of_mem _ List.mem_cons_self), fun v hv => h v (List.mem_cons_of_mem _ (List.mem_cons_of_mem _ hv))⟩
theorem ok_1 {y : MV} {t : List MV} (h : ∀ v ∈ y :: t, vok v) : vok y ∧ ∀ v ∈ t, vok v := ⟨h _ List.mem_cons_self, fun v hv => h v (List.mem_cons_of_mem _ hv)⟩
theorem ok_c {y : MV} {t : List MV} (hy : vok y) (h : ∀ v ∈ t, vok v) : ∀ v ∈ y :: t, vok v := List.forall_mem_cons.mpr ⟨hy, h⟩
end SIM
end
section
theorem tb_cst {c idx : Nat} {x : Int} (h : cst c idx = some x) : Cond.constant (cn c) idx (Int32.ofInt x) ∈ gtl := by
  unfold cst at h
  cases hf : (ctabs.getD c []).find? (fun r => r.1 == idx) with
  | none => rw [hf] at h; cases h
  | some r =>
    rw [hf] at h
    have hx : r.2.1 = x := Option.some.inj h
    have hm := List.mem_of_find?_eq_some hf
    have h1 : r.1 = idx := by simpa using List.find?_some hf
    have hc : c < ctabs.length := by
      rcases Nat.lt_or_ge c ctabs.length with q | q
      · exact q
      · rw [List.getD_eq_getElem?_getD, List.getElem?_eq_none q] at hm; cases hm
    have h2 := List.all_eq_true.mp (List.all_eq_true.mp chkC_all c (List.mem_range.mpr hc)) r hm
    have h3 : tb_at r.2.2 (Cond.constant (cn c) r.1 (Int32.ofInt r.2.1)) = true := h2
    rw [← hx, ← h1]
    exact tb_in h3
theorem tb_csl {c idx : Nat} {x : Int} (h : csl c idx = some x) : Cond.constantLong (cn c) idx (Int64.ofInt x) ∈ gtl := by
  unfold csl at h
  cases hf : (ltabs.getD c []).find? (fun r => r.1 == idx) with
  | none => rw [hf] at h; cases h
  | some r =>
    rw [hf] at h
    have hx : r.2.1 = x := Option.some.inj h
    have hm := List.mem_of_find?_eq_some hf
    have h1 : r.1 = idx := by simpa using List.find?_some hf
    have hc : c < ltabs.length := by
      rcases Nat.lt_or_ge c ltabs.length with q | q
      · exact q
      · rw [List.getD_eq_getElem?_getD, List.getElem?_eq_none q] at hm; cases hm
    have h2 := List.all_eq_true.mp (List.all_eq_true.mp chkL_all c (List.mem_range.mpr hc)) r hm
    have h3 : tb_at r.2.2 (Cond.constantLong (cn c) r.1 (Int64.ofInt r.2.1)) = true := h2
    rw [← hx, ← h1]
    exact tb_in h3
section SIMC
variable {p : Program} {l : Launch} {e : Env} {RR : Room} {s : State} {m : MethodId} {args : Array Value} {below : List Frame} {meth : Method} {c : Code} {Q : State → Prop} {D : va_G} {cI cZ cW : ClassId} {base b L : Nat} {xs : Nat → Int32} {k cE sE : Nat} {Me : MM} {C : Nx} {call : Cl}
variable {ls st : List MV} {M : MM} {lsr : Array Slot} {H : Heap} {locs : List Loc} {cells slots pc len : Nat}
theorem z_iconst {n : Int} (F : mFix p s m args meth c D cI cZ cW base b k) (hC : SimC p l e RR s m args below meth c Q D cI cZ cW base b L xs k cE sE Me C) (hR : RS D cI cZ cW base b L xs s k cE sE Me ls st M lsr H locs cells slots) (hd : decode (mcode k) pc = .ok (.iconst n, len)) (h : stepI call k (.iconst n) len pc ls st M C) : W p l e RR s m args below meth c H locs cells slots Q (F0 m pc lsr (st.map (mrv base b))) := by
  obtain ⟨rfl, hn, hc⟩ := h
  exact lv_iconst F.1 F.2.1 hd rfl ((hC _ _ _ _ hc).2 lsr H locs cells slots (hR.sk (ok_c (y := vi n) hn hR.2.2.1)))
theorem z_bipush {n : Int} (F : mFix p s m args meth c D cI cZ cW base b k) (hC : SimC p l e RR s m args below meth c Q D cI cZ cW base b L xs k cE sE Me C) (hR : RS D cI cZ cW base b L xs s k cE sE Me ls st M lsr H locs cells slots) (hd : decode (mcode k) pc = .ok (.bipush n, len)) (h : stepI call k (.bipush n) len pc ls st M C) : W p l e RR s m args below meth c H locs cells slots Q (F0 m pc lsr (st.map (mrv base b))) := by
  obtain ⟨rfl, hn, h8, hc⟩ := h
  exact lv_bipush F.1 F.2.1 hd h8 ((hC _ _ _ _ hc).2 lsr H locs cells slots (hR.sk (ok_c (y := vi n) hn hR.2.2.1)))
theorem z_sipush {n : Int} (F : mFix p s m args meth c D cI cZ cW base b k) (hC : SimC p l e RR s m args below meth c Q D cI cZ cW base b L xs k cE sE Me C) (hR : RS D cI cZ cW base b L xs s k cE sE Me ls st M lsr H locs cells slots) (hd : decode (mcode k) pc = .ok (.sipush n, len)) (h : stepI call k (.sipush n) len pc ls st M C) : W p l e RR s m args below meth c H locs cells slots Q (F0 m pc lsr (st.map (mrv base b))) := by
  obtain ⟨rfl, hn, h8, hc⟩ := h
  exact lv_sipush F.1 F.2.1 hd h8 ((hC _ _ _ _ hc).2 lsr H locs cells slots (hR.sk (ok_c (y := vi n) hn hR.2.2.1)))
theorem z_lconst {n : Fin 2} (F : mFix p s m args meth c D cI cZ cW base b k) (hC : SimC p l e RR s m args below meth c Q D cI cZ cW base b L xs k cE sE Me C) (hR : RS D cI cZ cW base b L xs s k cE sE Me ls st M lsr H locs cells slots) (hd : decode (mcode k) pc = .ok (.lconst n, len)) (h : stepI call k (.lconst n) len pc ls st M C) : W p l e RR s m args below meth c H locs cells slots Q (F0 m pc lsr (st.map (mrv base b))) := by
  obtain ⟨rfl, hc⟩ := h
  have hn : inL ((n : Nat) : Int) := by unfold inL; omega
  exact lv_lconst (v := Int64.ofInt ((n : Nat) : Int)) F.1 F.2.1 hd rfl ((hC _ _ _ _ hc).2 lsr H locs cells slots (hR.sk (ok_c (y := vl _) hn hR.2.2.1)))
theorem z_ldc {idx : Nat} (F : mFix p s m args meth c D cI cZ cW base b k) (hC : SimC p l e RR s m args below meth c Q D cI cZ cW base b L xs k cE sE Me C) (hR : RS D cI cZ cW base b L xs s k cE sE Me ls st M lsr H locs cells slots) (hd : decode (mcode k) pc = .ok (.ldc idx, len)) (h : stepI call k (.ldc idx) len pc ls st M C) : W p l e RR s m args below meth c H locs cells slots Q (F0 m pc lsr (st.map (mrv base b))) := by
  obtain ⟨rfl, x, hx, hn, hc⟩ := h
  exact lv_ldc F.1 F.2.1 F.2.2.2.1 (F.2.2.2.2.1 _ (tb_cst hx)) hd ((hC _ _ _ _ hc).2 lsr H locs cells slots (hR.sk (ok_c (y := vi x) hn hR.2.2.1)))
theorem z_ldc_w {idx : Nat} (F : mFix p s m args meth c D cI cZ cW base b k) (hC : SimC p l e RR s m args below meth c Q D cI cZ cW base b L xs k cE sE Me C) (hR : RS D cI cZ cW base b L xs s k cE sE Me ls st M lsr H locs cells slots) (hd : decode (mcode k) pc = .ok (.ldc_w idx, len)) (h : stepI call k (.ldc_w idx) len pc ls st M C) : W p l e RR s m args below meth c H locs cells slots Q (F0 m pc lsr (st.map (mrv base b))) := by
  obtain ⟨rfl, x, hx, hn, hc⟩ := h
  exact lv_ldcw F.1 F.2.1 F.2.2.2.1 (F.2.2.2.2.1 _ (tb_cst hx)) hd ((hC _ _ _ _ hc).2 lsr H locs cells slots (hR.sk (ok_c (y := vi x) hn hR.2.2.1)))
theorem z_ldc2_w {idx : Nat} (F : mFix p s m args meth c D cI cZ cW base b k) (hC : SimC p l e RR s m args below meth c Q D cI cZ cW base b L xs k cE sE Me C) (hR : RS D cI cZ cW base b L xs s k cE sE Me ls st M lsr H locs cells slots) (hd : decode (mcode k) pc = .ok (.ldc2_w idx, len)) (h : stepI call k (.ldc2_w idx) len pc ls st M C) : W p l e RR s m args below meth c H locs cells slots Q (F0 m pc lsr (st.map (mrv base b))) := by
  obtain ⟨rfl, x, hx, hn, hc⟩ := h
  exact lv_ldc2 F.1 F.2.1 F.2.2.2.1 (F.2.2.2.2.1 _ (tb_csl hx)) hd ((hC _ _ _ _ hc).2 lsr H locs cells slots (hR.sk (ok_c (y := vl x) hn hR.2.2.1)))
theorem z_iload {i : Nat} (F : mFix p s m args meth c D cI cZ cW base b k) (hC : SimC p l e RR s m args below meth c Q D cI cZ cW base b L xs k cE sE Me C) (hR : RS D cI cZ cW base b L xs s k cE sE Me ls st M lsr H locs cells slots) (hd : decode (mcode k) pc = .ok (.iload i, len)) (h : stepI call k (.iload i) len pc ls st M C) : W p l e RR s m args below meth c H locs cells slots Q (F0 m pc lsr (st.map (mrv base b))) := by
  obtain ⟨rfl, x, hl, hc⟩ := h
  have hg := hR.get hl (by simp)
  exact lv_iload F.1 F.2.1 hd hg ((hC _ _ _ _ hc).2 lsr H locs cells slots (hR.sk (ok_c (y := vi x) (hR.lv hl) hR.2.2.1)))
theorem z_iload_n {i : Fin 4} (F : mFix p s m args meth c D cI cZ cW base b k) (hC : SimC p l e RR s m args below meth c Q D cI cZ cW base b L xs k cE sE Me C) (hR : RS D cI cZ cW base b L xs s k cE sE Me ls st M lsr H locs cells slots) (hd : decode (mcode k) pc = .ok (.iload_n i, len)) (h : stepI call k (.iload_n i) len pc ls st M C) : W p l e RR s m args below meth c H locs cells slots Q (F0 m pc lsr (st.map (mrv base b))) := by
  obtain ⟨rfl, x, hl, hc⟩ := h
  have hg := hR.get hl (by simp)
  exact lv_iload_n F.1 F.2.1 hd rfl hg ((hC _ _ _ _ hc).2 lsr H locs cells slots (hR.sk (ok_c (y := vi x) (hR.lv hl) hR.2.2.1)))
theorem z_lload {i : Nat} (F : mFix p s m args meth c D cI cZ cW base b k) (hC : SimC p l e RR s m args below meth c Q D cI cZ cW base b L xs k cE sE Me C) (hR : RS D cI cZ cW base b L xs s k cE sE Me ls st M lsr H locs cells slots) (hd : decode (mcode k) pc = .ok (.lload i, len)) (h : stepI call k (.lload i) len pc ls st M C) : W p l e RR s m args below meth c H locs cells slots Q (F0 m pc lsr (st.map (mrv base b))) := by
  obtain ⟨rfl, x, hl, hc⟩ := h
  have hg := hR.get hl (by simp)
  exact lv_lload F.1 F.2.1 hd hg ((hC _ _ _ _ hc).2 lsr H locs cells slots (hR.sk (ok_c (y := vl x) (hR.lv hl) hR.2.2.1)))
theorem z_lload_n {i : Fin 4} (F : mFix p s m args meth c D cI cZ cW base b k) (hC : SimC p l e RR s m args below meth c Q D cI cZ cW base b L xs k cE sE Me C) (hR : RS D cI cZ cW base b L xs s k cE sE Me ls st M lsr H locs cells slots) (hd : decode (mcode k) pc = .ok (.lload_n i, len)) (h : stepI call k (.lload_n i) len pc ls st M C) : W p l e RR s m args below meth c H locs cells slots Q (F0 m pc lsr (st.map (mrv base b))) := by
  obtain ⟨rfl, x, hl, hc⟩ := h
  have hg := hR.get hl (by simp)
  exact lv_lload_n F.1 F.2.1 hd rfl hg ((hC _ _ _ _ hc).2 lsr H locs cells slots (hR.sk (ok_c (y := vl x) (hR.lv hl) hR.2.2.1)))
theorem z_aload {i : Nat} (F : mFix p s m args meth c D cI cZ cW base b k) (hC : SimC p l e RR s m args below meth c Q D cI cZ cW base b L xs k cE sE Me C) (hR : RS D cI cZ cW base b L xs s k cE sE Me ls st M lsr H locs cells slots) (hd : decode (mcode k) pc = .ok (.aload i, len)) (h : stepI call k (.aload i) len pc ls st M C) : W p l e RR s m args below meth c H locs cells slots Q (F0 m pc lsr (st.map (mrv base b))) := by
  obtain ⟨rfl, x, hl, hc⟩ := h
  have hg := hR.get hl (by simp)
  exact lv_aload F.1 F.2.1 hd hg ((hC _ _ _ _ hc).2 lsr H locs cells slots (hR.sk (ok_c (y := vr x) (hR.lv hl) hR.2.2.1)))
theorem z_aload_n {i : Fin 4} (F : mFix p s m args meth c D cI cZ cW base b k) (hC : SimC p l e RR s m args below meth c Q D cI cZ cW base b L xs k cE sE Me C) (hR : RS D cI cZ cW base b L xs s k cE sE Me ls st M lsr H locs cells slots) (hd : decode (mcode k) pc = .ok (.aload_n i, len)) (h : stepI call k (.aload_n i) len pc ls st M C) : W p l e RR s m args below meth c H locs cells slots Q (F0 m pc lsr (st.map (mrv base b))) := by
  obtain ⟨rfl, x, hl, hc⟩ := h
  have hg := hR.get hl (by simp)
  exact lv_aload_n F.1 F.2.1 hd rfl hg ((hC _ _ _ _ hc).2 lsr H locs cells slots (hR.sk (ok_c (y := vr x) (hR.lv hl) hR.2.2.1)))
theorem z_istore {i : Nat} (F : mFix p s m args meth c D cI cZ cW base b k) (hC : SimC p l e RR s m args below meth c Q D cI cZ cW base b L xs k cE sE Me C) (hR : RS D cI cZ cW base b L xs s k cE sE Me ls st M lsr H locs cells slots) (hd : decode (mcode k) pc = .ok (.istore i, len)) (h : stepI call k (.istore i) len pc ls st M C) : W p l e RR s m args below meth c H locs cells slots Q (F0 m pc lsr (st.map (mrv base b))) := by
  obtain ⟨rfl, x, t, rfl, hi, hc⟩ := h
  obtain ⟨ox, ot⟩ := ok_1 hR.2.2.1
  refine lv_istore (rest := t.map (mrv base b)) F.1 F.2.1 hd hR.1.has (hR.1.2.1 ▸ hi) rfl (fun ls2 hl2 => ?_)
  exact (hC _ _ _ _ hc).2 ls2 H locs cells slots (hR.lo (LRel_st1 (v := vi x) hR.1 hi (fun _ hq => hq) hl2) (ok_st1 hR.2.1 ox) ot)
theorem z_istore_n {i : Fin 4} (F : mFix p s m args meth c D cI cZ cW base b k) (hC : SimC p l e RR s m args below meth c Q D cI cZ cW base b L xs k cE sE Me C) (hR : RS D cI cZ cW base b L xs s k cE sE Me ls st M lsr H locs cells slots) (hd : decode (mcode k) pc = .ok (.istore_n i, len)) (h : stepI call k (.istore_n i) len pc ls st M C) : W p l e RR s m args below meth c H locs cells slots Q (F0 m pc lsr (st.map (mrv base b))) := by
  obtain ⟨rfl, x, t, rfl, hi, hc⟩ := h
  obtain ⟨ox, ot⟩ := ok_1 hR.2.2.1
  refine lv_istore_n (rest := t.map (mrv base b)) F.1 F.2.1 hd rfl hR.1.has (hR.1.2.1 ▸ hi) rfl (fun ls2 hl2 => ?_)
  exact (hC _ _ _ _ hc).2 ls2 H locs cells slots (hR.lo (LRel_st1 (v := vi x) hR.1 hi (fun _ hq => hq) hl2) (ok_st1 hR.2.1 ox) ot)
theorem z_astore {i : Nat} (F : mFix p s m args meth c D cI cZ cW base b k) (hC : SimC p l e RR s m args below meth c Q D cI cZ cW base b L xs k cE sE Me C) (hR : RS D cI cZ cW base b L xs s k cE sE Me ls st M lsr H locs cells slots) (hd : decode (mcode k) pc = .ok (.astore i, len)) (h : stepI call k (.astore i) len pc ls st M C) : W p l e RR s m args below meth c H locs cells slots Q (F0 m pc lsr (st.map (mrv base b))) := by
  obtain ⟨rfl, x, t, rfl, hi, hc⟩ := h
  obtain ⟨ox, ot⟩ := ok_1 hR.2.2.1
  refine lv_astore (rest := t.map (mrv base b)) F.1 F.2.1 hd hR.1.has (hR.1.2.1 ▸ hi) rfl (fun ls2 hl2 => ?_)
  exact (hC _ _ _ _ hc).2 ls2 H locs cells slots (hR.lo (LRel_st1 (v := vr x) hR.1 hi (fun _ hq => hq) hl2) (ok_st1 hR.2.1 ox) ot)
theorem z_astore_n {i : Fin 4} (F : mFix p s m args meth c D cI cZ cW base b k) (hC : SimC p l e RR s m args below meth c Q D cI cZ cW base b L xs k cE sE Me C) (hR : RS D cI cZ cW base b L xs s k cE sE Me ls st M lsr H locs cells slots) (hd : decode (mcode k) pc = .ok (.astore_n i, len)) (h : stepI call k (.astore_n i) len pc ls st M C) : W p l e RR s m args below meth c H locs cells slots Q (F0 m pc lsr (st.map (mrv base b))) := by
  obtain ⟨rfl, x, t, rfl, hi, hc⟩ := h
  obtain ⟨ox, ot⟩ := ok_1 hR.2.2.1
  refine lv_astore_n (rest := t.map (mrv base b)) F.1 F.2.1 hd rfl hR.1.has (hR.1.2.1 ▸ hi) rfl (fun ls2 hl2 => ?_)
  exact (hC _ _ _ _ hc).2 ls2 H locs cells slots (hR.lo (LRel_st1 (v := vr x) hR.1 hi (fun _ hq => hq) hl2) (ok_st1 hR.2.1 ox) ot)
theorem z_lstore {i : Nat} (F : mFix p s m args meth c D cI cZ cW base b k) (hC : SimC p l e RR s m args below meth c Q D cI cZ cW base b L xs k cE sE Me C) (hR : RS D cI cZ cW base b L xs s k cE sE Me ls st M lsr H locs cells slots) (hd : decode (mcode k) pc = .ok (.lstore i, len)) (h : stepI call k (.lstore i) len pc ls st M C) : W p l e RR s m args below meth c H locs cells slots Q (F0 m pc lsr (st.map (mrv base b))) := by
  obtain ⟨rfl, x, t, rfl, hi, hc⟩ := h
  obtain ⟨ox, ot⟩ := ok_1 hR.2.2.1
  refine lv_lstore (rest := t.map (mrv base b)) F.1 F.2.1 hd hR.1.has (hR.1.2.1 ▸ hi) rfl (fun ls2 hl2 => ?_)
  exact (hC _ _ _ _ hc).2 ls2 H locs cells slots (hR.lo (LRel_st2 (v := vl x) hR.1 hi hl2) (ok_st2 hR.2.1 ox) ot)
theorem z_lstore_n {i : Fin 4} (F : mFix p s m args meth c D cI cZ cW base b k) (hC : SimC p l e RR s m args below meth c Q D cI cZ cW base b L xs k cE sE Me C) (hR : RS D cI cZ cW base b L xs s k cE sE Me ls st M lsr H locs cells slots) (hd : decode (mcode k) pc = .ok (.lstore_n i, len)) (h : stepI call k (.lstore_n i) len pc ls st M C) : W p l e RR s m args below meth c H locs cells slots Q (F0 m pc lsr (st.map (mrv base b))) := by
  obtain ⟨rfl, x, t, rfl, hi, hc⟩ := h
  obtain ⟨ox, ot⟩ := ok_1 hR.2.2.1
  refine lv_lstore_n (rest := t.map (mrv base b)) F.1 F.2.1 hd rfl hR.1.has (hR.1.2.1 ▸ hi) rfl (fun ls2 hl2 => ?_)
  exact (hC _ _ _ _ hc).2 ls2 H locs cells slots (hR.lo (LRel_st2 (v := vl x) hR.1 hi hl2) (ok_st2 hR.2.1 ox) ot)
theorem z_iinc {i : Nat} {n : Int} (F : mFix p s m args meth c D cI cZ cW base b k) (hC : SimC p l e RR s m args below meth c Q D cI cZ cW base b L xs k cE sE Me C) (hR : RS D cI cZ cW base b L xs s k cE sE Me ls st M lsr H locs cells slots) (hd : decode (mcode k) pc = .ok (.iinc i n, len)) (h : stepI call k (.iinc i n) len pc ls st M C) : W p l e RR s m args below meth c H locs cells slots Q (F0 m pc lsr (st.map (mrv base b))) := by
  obtain ⟨rfl, x, hl, hc⟩ := h
  have hg := hR.get hl (by simp)
  have hi : i < ls.length := (List.getElem?_eq_some_iff.mp hl).1
  have hh : lv_has lsr (mmaxl k) ((i, mrv base b (vi x)) :: lvp base b ls) := ⟨hR.1.has.1, hR.1.has.2.1, fun q hq => by
    rcases List.mem_cons.mp hq with h1 | h1
    · rw [h1]; exact hg
    · exact hR.1.has.2.2 q h1⟩
  refine lv_iinc (k := 0) (rest := st.map (mrv base b)) F.1 F.2.1 hd hh rfl (oi_add x n) (hR.1.2.1 ▸ hi) rfl (fun ls2 hl2 => ?_)
  exact (hC _ _ _ _ hc).2 ls2 H locs cells slots (hR.lo (LRel_st1 (v := vi (wI (x + n))) hR.1 hi (fun _ hq => List.mem_cons_of_mem _ hq) hl2) (ok_st1 hR.2.1 (wI_in _)) hR.2.2.1)
theorem z_iadd  (F : mFix p s m args meth c D cI cZ cW base b k) (hC : SimC p l e RR s m args below meth c Q D cI cZ cW base b L xs k cE sE Me C) (hR : RS D cI cZ cW base b L xs s k cE sE Me ls st M lsr H locs cells slots) (hd : decode (mcode k) pc = .ok (.iadd, len)) (h : stepI call k (.iadd) len pc ls st M C) : W p l e RR s m args below meth c H locs cells slots Q (F0 m pc lsr (st.map (mrv base b))) := by
  obtain ⟨rfl, x, y, t, rfl, hc⟩ := h
  obtain ⟨oy, ox, ot⟩ := ok_2 hR.2.2.1
  have hx := ((hC _ _ _ _ hc).2 lsr H locs cells slots (hR.sk (ok_c (y := vi (wI (x + y))) (wI_in _) ot)))
  exact lv_iadd (x := Int32.ofInt x) (y := Int32.ofInt y) (rest := t.map (mrv base b)) F.1 F.2.1 hd (by rw [oi_add]; exact hx)
theorem z_isub  (F : mFix p s m args meth c D cI cZ cW base b k) (hC : SimC p l e RR s m args below meth c Q D cI cZ cW base b L xs k cE sE Me C) (hR : RS D cI cZ cW base b L xs s k cE sE Me ls st M lsr H locs cells slots) (hd : decode (mcode k) pc = .ok (.isub, len)) (h : stepI call k (.isub) len pc ls st M C) : W p l e RR s m args below meth c H locs cells slots Q (F0 m pc lsr (st.map (mrv base b))) := by
  obtain ⟨rfl, x, y, t, rfl, hc⟩ := h
  obtain ⟨oy, ox, ot⟩ := ok_2 hR.2.2.1
  have hx := ((hC _ _ _ _ hc).2 lsr H locs cells slots (hR.sk (ok_c (y := vi (wI (x - y))) (wI_in _) ot)))
  exact lv_isub (x := Int32.ofInt x) (y := Int32.ofInt y) (rest := t.map (mrv base b)) F.1 F.2.1 hd (by rw [oi_sub]; exact hx)
theorem z_imul  (F : mFix p s m args meth c D cI cZ cW base b k) (hC : SimC p l e RR s m args below meth c Q D cI cZ cW base b L xs k cE sE Me C) (hR : RS D cI cZ cW base b L xs s k cE sE Me ls st M lsr H locs cells slots) (hd : decode (mcode k) pc = .ok (.imul, len)) (h : stepI call k (.imul) len pc ls st M C) : W p l e RR s m args below meth c H locs cells slots Q (F0 m pc lsr (st.map (mrv base b))) := by
  obtain ⟨rfl, x, y, t, rfl, hc⟩ := h
  obtain ⟨oy, ox, ot⟩ := ok_2 hR.2.2.1
  have hx := ((hC _ _ _ _ hc).2 lsr H locs cells slots (hR.sk (ok_c (y := vi (wI (x * y))) (wI_in _) ot)))
  exact lv_imul (x := Int32.ofInt x) (y := Int32.ofInt y) (rest := t.map (mrv base b)) F.1 F.2.1 hd (by rw [oi_mul]; exact hx)
theorem z_idiv  (F : mFix p s m args meth c D cI cZ cW base b k) (hC : SimC p l e RR s m args below meth c Q D cI cZ cW base b L xs k cE sE Me C) (hR : RS D cI cZ cW base b L xs s k cE sE Me ls st M lsr H locs cells slots) (hd : decode (mcode k) pc = .ok (.idiv, len)) (h : stepI call k (.idiv) len pc ls st M C) : W p l e RR s m args below meth c H locs cells slots Q (F0 m pc lsr (st.map (mrv base b))) := by
  obtain ⟨rfl, x, y, t, rfl, hy, hc⟩ := h
  obtain ⟨oy, ox, ot⟩ := ok_2 hR.2.2.1
  have hx := ((hC _ _ _ _ hc).2 lsr H locs cells slots (hR.sk (ok_c (y := vi (wI (x.tdiv y))) (wI_in _) ot)))
  exact lv_idiv (x := Int32.ofInt x) (y := Int32.ofInt y) (rest := t.map (mrv base b)) F.1 F.2.1 hd (oi_n0 oy hy) (by rw [oi_div ox oy]; exact hx)
theorem z_irem  (F : mFix p s m args meth c D cI cZ cW base b k) (hC : SimC p l e RR s m args below meth c Q D cI cZ cW base b L xs k cE sE Me C) (hR : RS D cI cZ cW base b L xs s k cE sE Me ls st M lsr H locs cells slots) (hd : decode (mcode k) pc = .ok (.irem, len)) (h : stepI call k (.irem) len pc ls st M C) : W p l e RR s m args below meth c H locs cells slots Q (F0 m pc lsr (st.map (mrv base b))) := by
  obtain ⟨rfl, x, y, t, rfl, hy, hc⟩ := h
  obtain ⟨oy, ox, ot⟩ := ok_2 hR.2.2.1
  have hx := ((hC _ _ _ _ hc).2 lsr H locs cells slots (hR.sk (ok_c (y := vi (x.tmod y)) (oi_tm ox hy oy) ot)))
  exact lv_irem (x := Int32.ofInt x) (y := Int32.ofInt y) (rest := t.map (mrv base b)) F.1 F.2.1 hd (oi_n0 oy hy) (by rw [oi_rem ox oy]; exact hx)
theorem z_iand  (F : mFix p s m args meth c D cI cZ cW base b k) (hC : SimC p l e RR s m args below meth c Q D cI cZ cW base b L xs k cE sE Me C) (hR : RS D cI cZ cW base b L xs s k cE sE Me ls st M lsr H locs cells slots) (hd : decode (mcode k) pc = .ok (.iand, len)) (h : stepI call k (.iand) len pc ls st M C) : W p l e RR s m args below meth c H locs cells slots Q (F0 m pc lsr (st.map (mrv base b))) := by
  obtain ⟨rfl, x, y, t, rfl, hc⟩ := h
  obtain ⟨oy, ox, ot⟩ := ok_2 hR.2.2.1
  have hx := ((hC _ _ _ _ hc).2 lsr H locs cells slots (hR.sk (ok_c (y := vi (aNd x y)) (oi_in _) ot)))
  have hx2 : W p l e RR s m args below meth c H locs cells slots Q (F0 m (pc + 1) lsr (.int (Int32.ofInt (aNd x y)) :: t.map (mrv base b))) := hx
  unfold aNd at hx2
  rw [oi_of] at hx2
  exact lv_iand (x := Int32.ofInt x) (y := Int32.ofInt y) (rest := t.map (mrv base b)) F.1 F.2.1 hd hx2
theorem z_ixor  (F : mFix p s m args meth c D cI cZ cW base b k) (hC : SimC p l e RR s m args below meth c Q D cI cZ cW base b L xs k cE sE Me C) (hR : RS D cI cZ cW base b L xs s k cE sE Me ls st M lsr H locs cells slots) (hd : decode (mcode k) pc = .ok (.ixor, len)) (h : stepI call k (.ixor) len pc ls st M C) : W p l e RR s m args below meth c H locs cells slots Q (F0 m pc lsr (st.map (mrv base b))) := by
  obtain ⟨rfl, x, y, t, rfl, hc⟩ := h
  obtain ⟨oy, ox, ot⟩ := ok_2 hR.2.2.1
  have hx := ((hC _ _ _ _ hc).2 lsr H locs cells slots (hR.sk (ok_c (y := vi (xOr x y)) (oi_in _) ot)))
  have hx2 : W p l e RR s m args below meth c H locs cells slots Q (F0 m (pc + 1) lsr (.int (Int32.ofInt (xOr x y)) :: t.map (mrv base b))) := hx
  unfold xOr at hx2
  rw [oi_of] at hx2
  exact lv_ixor (x := Int32.ofInt x) (y := Int32.ofInt y) (rest := t.map (mrv base b)) F.1 F.2.1 hd hx2
theorem z_ishl  (F : mFix p s m args meth c D cI cZ cW base b k) (hC : SimC p l e RR s m args below meth c Q D cI cZ cW base b L xs k cE sE Me C) (hR : RS D cI cZ cW base b L xs s k cE sE Me ls st M lsr H locs cells slots) (hd : decode (mcode k) pc = .ok (.ishl, len)) (h : stepI call k (.ishl) len pc ls st M C) : W p l e RR s m args below meth c H locs cells slots Q (F0 m pc lsr (st.map (mrv base b))) := by
  obtain ⟨rfl, x, y, t, rfl, hc⟩ := h
  obtain ⟨oy, ox, ot⟩ := ok_2 hR.2.2.1
  have hx := ((hC _ _ _ _ hc).2 lsr H locs cells slots (hR.sk (ok_c (y := vi (sHl x y)) (oi_in _) ot)))
  have hx2 : W p l e RR s m args below meth c H locs cells slots Q (F0 m (pc + 1) lsr (.int (Int32.ofInt (sHl x y)) :: t.map (mrv base b))) := hx
  unfold sHl at hx2
  rw [oi_of] at hx2
  exact lv_ishl (x := Int32.ofInt x) (y := Int32.ofInt y) (rest := t.map (mrv base b)) F.1 F.2.1 hd hx2
theorem z_ishr  (F : mFix p s m args meth c D cI cZ cW base b k) (hC : SimC p l e RR s m args below meth c Q D cI cZ cW base b L xs k cE sE Me C) (hR : RS D cI cZ cW base b L xs s k cE sE Me ls st M lsr H locs cells slots) (hd : decode (mcode k) pc = .ok (.ishr, len)) (h : stepI call k (.ishr) len pc ls st M C) : W p l e RR s m args below meth c H locs cells slots Q (F0 m pc lsr (st.map (mrv base b))) := by
  obtain ⟨rfl, x, y, t, rfl, hc⟩ := h
  obtain ⟨oy, ox, ot⟩ := ok_2 hR.2.2.1
  have hx := ((hC _ _ _ _ hc).2 lsr H locs cells slots (hR.sk (ok_c (y := vi (sHr x y)) (oi_in _) ot)))
  have hx2 : W p l e RR s m args below meth c H locs cells slots Q (F0 m (pc + 1) lsr (.int (Int32.ofInt (sHr x y)) :: t.map (mrv base b))) := hx
  unfold sHr at hx2
  rw [oi_of] at hx2
  exact lv_ishr (x := Int32.ofInt x) (y := Int32.ofInt y) (rest := t.map (mrv base b)) F.1 F.2.1 hd hx2
theorem z_iushr  (F : mFix p s m args meth c D cI cZ cW base b k) (hC : SimC p l e RR s m args below meth c Q D cI cZ cW base b L xs k cE sE Me C) (hR : RS D cI cZ cW base b L xs s k cE sE Me ls st M lsr H locs cells slots) (hd : decode (mcode k) pc = .ok (.iushr, len)) (h : stepI call k (.iushr) len pc ls st M C) : W p l e RR s m args below meth c H locs cells slots Q (F0 m pc lsr (st.map (mrv base b))) := by
  obtain ⟨rfl, x, y, t, rfl, hc⟩ := h
  obtain ⟨oy, ox, ot⟩ := ok_2 hR.2.2.1
  exact lv_iushr (x := Int32.ofInt x) (y := Int32.ofInt y) (v := Int32.ofInt (sUr x y)) (rest := t.map (mrv base b)) F.1 F.2.1 hd (by unfold sUr; rw [oi_of]) ((hC _ _ _ _ hc).2 lsr H locs cells slots (hR.sk (ok_c (y := vi (sUr x y)) (oi_in _) ot)))
theorem z_ineg  (F : mFix p s m args meth c D cI cZ cW base b k) (hC : SimC p l e RR s m args below meth c Q D cI cZ cW base b L xs k cE sE Me C) (hR : RS D cI cZ cW base b L xs s k cE sE Me ls st M lsr H locs cells slots) (hd : decode (mcode k) pc = .ok (.ineg, len)) (h : stepI call k (.ineg) len pc ls st M C) : W p l e RR s m args below meth c H locs cells slots Q (F0 m pc lsr (st.map (mrv base b))) := by
  obtain ⟨rfl, x, t, rfl, hc⟩ := h
  obtain ⟨ox, ot⟩ := ok_1 hR.2.2.1
  have hx := ((hC _ _ _ _ hc).2 lsr H locs cells slots (hR.sk (ok_c (y := vi (wI (-x))) (wI_in _) ot)))
  exact lv_ineg (x := Int32.ofInt x) (rest := t.map (mrv base b)) F.1 F.2.1 hd (by rw [oi_neg]; exact hx)
theorem z_ladd  (F : mFix p s m args meth c D cI cZ cW base b k) (hC : SimC p l e RR s m args below meth c Q D cI cZ cW base b L xs k cE sE Me C) (hR : RS D cI cZ cW base b L xs s k cE sE Me ls st M lsr H locs cells slots) (hd : decode (mcode k) pc = .ok (.ladd, len)) (h : stepI call k (.ladd) len pc ls st M C) : W p l e RR s m args below meth c H locs cells slots Q (F0 m pc lsr (st.map (mrv base b))) := by
  obtain ⟨rfl, x, y, t, rfl, hc⟩ := h
  obtain ⟨oy, ox, ot⟩ := ok_2 hR.2.2.1
  have hx := ((hC _ _ _ _ hc).2 lsr H locs cells slots (hR.sk (ok_c (y := vl (wL (x + y))) (wL_in _) ot)))
  exact lv_ladd (x := Int64.ofInt x) (y := Int64.ofInt y) (rest := t.map (mrv base b)) F.1 F.2.1 hd (by rw [oL_add]; exact hx)
theorem z_lsub  (F : mFix p s m args meth c D cI cZ cW base b k) (hC : SimC p l e RR s m args below meth c Q D cI cZ cW base b L xs k cE sE Me C) (hR : RS D cI cZ cW base b L xs s k cE sE Me ls st M lsr H locs cells slots) (hd : decode (mcode k) pc = .ok (.lsub, len)) (h : stepI call k (.lsub) len pc ls st M C) : W p l e RR s m args below meth c H locs cells slots Q (F0 m pc lsr (st.map (mrv base b))) := by
  obtain ⟨rfl, x, y, t, rfl, hc⟩ := h
  obtain ⟨oy, ox, ot⟩ := ok_2 hR.2.2.1
  have hx := ((hC _ _ _ _ hc).2 lsr H locs cells slots (hR.sk (ok_c (y := vl (wL (x - y))) (wL_in _) ot)))
  exact lv_lsub (x := Int64.ofInt x) (y := Int64.ofInt y) (rest := t.map (mrv base b)) F.1 F.2.1 hd (by rw [oL_sub]; exact hx)
theorem z_lmul  (F : mFix p s m args meth c D cI cZ cW base b k) (hC : SimC p l e RR s m args below meth c Q D cI cZ cW base b L xs k cE sE Me C) (hR : RS D cI cZ cW base b L xs s k cE sE Me ls st M lsr H locs cells slots) (hd : decode (mcode k) pc = .ok (.lmul, len)) (h : stepI call k (.lmul) len pc ls st M C) : W p l e RR s m args below meth c H locs cells slots Q (F0 m pc lsr (st.map (mrv base b))) := by
  obtain ⟨rfl, x, y, t, rfl, hc⟩ := h
  obtain ⟨oy, ox, ot⟩ := ok_2 hR.2.2.1
  have hx := ((hC _ _ _ _ hc).2 lsr H locs cells slots (hR.sk (ok_c (y := vl (wL (x * y))) (wL_in _) ot)))
  exact lv_lmul (x := Int64.ofInt x) (y := Int64.ofInt y) (rest := t.map (mrv base b)) F.1 F.2.1 hd (by rw [oL_mul]; exact hx)
theorem z_ldiv  (F : mFix p s m args meth c D cI cZ cW base b k) (hC : SimC p l e RR s m args below meth c Q D cI cZ cW base b L xs k cE sE Me C) (hR : RS D cI cZ cW base b L xs s k cE sE Me ls st M lsr H locs cells slots) (hd : decode (mcode k) pc = .ok (.ldiv, len)) (h : stepI call k (.ldiv) len pc ls st M C) : W p l e RR s m args below meth c H locs cells slots Q (F0 m pc lsr (st.map (mrv base b))) := by
  obtain ⟨rfl, x, y, t, rfl, hy, hc⟩ := h
  obtain ⟨oy, ox, ot⟩ := ok_2 hR.2.2.1
  have hx := ((hC _ _ _ _ hc).2 lsr H locs cells slots (hR.sk (ok_c (y := vl (wL (x.tdiv y))) (wL_in _) ot)))
  exact lv_ldiv (x := Int64.ofInt x) (y := Int64.ofInt y) (rest := t.map (mrv base b)) F.1 F.2.1 hd (oL_n0 oy hy) (by rw [oL_div ox oy]; exact hx)
theorem z_lrem  (F : mFix p s m args meth c D cI cZ cW base b k) (hC : SimC p l e RR s m args below meth c Q D cI cZ cW base b L xs k cE sE Me C) (hR : RS D cI cZ cW base b L xs s k cE sE Me ls st M lsr H locs cells slots) (hd : decode (mcode k) pc = .ok (.lrem, len)) (h : stepI call k (.lrem) len pc ls st M C) : W p l e RR s m args below meth c H locs cells slots Q (F0 m pc lsr (st.map (mrv base b))) := by
  obtain ⟨rfl, x, y, t, rfl, hy, hc⟩ := h
  obtain ⟨oy, ox, ot⟩ := ok_2 hR.2.2.1
  have hx := ((hC _ _ _ _ hc).2 lsr H locs cells slots (hR.sk (ok_c (y := vl (x.tmod y)) (oL_tm ox hy oy) ot)))
  exact lv_lrem (x := Int64.ofInt x) (y := Int64.ofInt y) (rest := t.map (mrv base b)) F.1 F.2.1 hd (oL_n0 oy hy) (by rw [oL_rem ox oy]; exact hx)
theorem z_land  (F : mFix p s m args meth c D cI cZ cW base b k) (hC : SimC p l e RR s m args below meth c Q D cI cZ cW base b L xs k cE sE Me C) (hR : RS D cI cZ cW base b L xs s k cE sE Me ls st M lsr H locs cells slots) (hd : decode (mcode k) pc = .ok (.land, len)) (h : stepI call k (.land) len pc ls st M C) : W p l e RR s m args below meth c H locs cells slots Q (F0 m pc lsr (st.map (mrv base b))) := by
  obtain ⟨rfl, x, y, t, rfl, hc⟩ := h
  obtain ⟨oy, ox, ot⟩ := ok_2 hR.2.2.1
  have hx := ((hC _ _ _ _ hc).2 lsr H locs cells slots (hR.sk (ok_c (y := vl (lAnd x y)) (oL_in _) ot)))
  have hx2 : W p l e RR s m args below meth c H locs cells slots Q (F0 m (pc + 1) lsr (.long (Int64.ofInt (lAnd x y)) :: t.map (mrv base b))) := hx
  unfold lAnd at hx2
  rw [oL_of] at hx2
  exact lv_land (x := Int64.ofInt x) (y := Int64.ofInt y) (rest := t.map (mrv base b)) F.1 F.2.1 hd hx2
theorem z_lor  (F : mFix p s m args meth c D cI cZ cW base b k) (hC : SimC p l e RR s m args below meth c Q D cI cZ cW base b L xs k cE sE Me C) (hR : RS D cI cZ cW base b L xs s k cE sE Me ls st M lsr H locs cells slots) (hd : decode (mcode k) pc = .ok (.lor, len)) (h : stepI call k (.lor) len pc ls st M C) : W p l e RR s m args below meth c H locs cells slots Q (F0 m pc lsr (st.map (mrv base b))) := by
  obtain ⟨rfl, x, y, t, rfl, hc⟩ := h
  obtain ⟨oy, ox, ot⟩ := ok_2 hR.2.2.1
  have hx := ((hC _ _ _ _ hc).2 lsr H locs cells slots (hR.sk (ok_c (y := vl (lOr x y)) (oL_in _) ot)))
  have hx2 : W p l e RR s m args below meth c H locs cells slots Q (F0 m (pc + 1) lsr (.long (Int64.ofInt (lOr x y)) :: t.map (mrv base b))) := hx
  unfold lOr at hx2
  rw [oL_of] at hx2
  exact lv_lor (x := Int64.ofInt x) (y := Int64.ofInt y) (rest := t.map (mrv base b)) F.1 F.2.1 hd hx2
theorem z_lshl  (F : mFix p s m args meth c D cI cZ cW base b k) (hC : SimC p l e RR s m args below meth c Q D cI cZ cW base b L xs k cE sE Me C) (hR : RS D cI cZ cW base b L xs s k cE sE Me ls st M lsr H locs cells slots) (hd : decode (mcode k) pc = .ok (.lshl, len)) (h : stepI call k (.lshl) len pc ls st M C) : W p l e RR s m args below meth c H locs cells slots Q (F0 m pc lsr (st.map (mrv base b))) := by
  obtain ⟨rfl, x, y, t, rfl, hc⟩ := h
  obtain ⟨oy, ox, ot⟩ := ok_2 hR.2.2.1
  exact lv_lshl (x := Int64.ofInt x) (y := Int32.ofInt y) (v := Int64.ofInt (lShl x y)) (rest := t.map (mrv base b)) F.1 F.2.1 hd (by unfold lShl; rw [oL_of]) ((hC _ _ _ _ hc).2 lsr H locs cells slots (hR.sk (ok_c (y := vl (lShl x y)) (oL_in _) ot)))
theorem z_lneg  (F : mFix p s m args meth c D cI cZ cW base b k) (hC : SimC p l e RR s m args below meth c Q D cI cZ cW base b L xs k cE sE Me C) (hR : RS D cI cZ cW base b L xs s k cE sE Me ls st M lsr H locs cells slots) (hd : decode (mcode k) pc = .ok (.lneg, len)) (h : stepI call k (.lneg) len pc ls st M C) : W p l e RR s m args below meth c H locs cells slots Q (F0 m pc lsr (st.map (mrv base b))) := by
  obtain ⟨rfl, x, t, rfl, hc⟩ := h
  obtain ⟨ox, ot⟩ := ok_1 hR.2.2.1
  have hx := ((hC _ _ _ _ hc).2 lsr H locs cells slots (hR.sk (ok_c (y := vl (wL (-x))) (wL_in _) ot)))
  exact lv_lneg (x := Int64.ofInt x) (rest := t.map (mrv base b)) F.1 F.2.1 hd (by rw [oL_neg]; exact hx)
theorem z_lcmp  (F : mFix p s m args meth c D cI cZ cW base b k) (hC : SimC p l e RR s m args below meth c Q D cI cZ cW base b L xs k cE sE Me C) (hR : RS D cI cZ cW base b L xs s k cE sE Me ls st M lsr H locs cells slots) (hd : decode (mcode k) pc = .ok (.lcmp, len)) (h : stepI call k (.lcmp) len pc ls st M C) : W p l e RR s m args below meth c H locs cells slots Q (F0 m pc lsr (st.map (mrv base b))) := by
  obtain ⟨rfl, x, y, t, rfl, hc⟩ := h
  obtain ⟨oy, ox, ot⟩ := ok_2 hR.2.2.1
  have hx := ((hC _ _ _ _ hc).2 lsr H locs cells slots (hR.sk (ok_c (y := vi (lCm x y)) (by unfold lCm; repeat (first | split | (constructor <;> decide))) ot)))
  exact W.lcmp (x := Int64.ofInt x) (y := Int64.ofInt y) (rest := t.map (mrv base b)) F.1 F.2.1 hd (by rw [oL_cm ox oy]; exact hx)
theorem z_i2l  (F : mFix p s m args meth c D cI cZ cW base b k) (hC : SimC p l e RR s m args below meth c Q D cI cZ cW base b L xs k cE sE Me C) (hR : RS D cI cZ cW base b L xs s k cE sE Me ls st M lsr H locs cells slots) (hd : decode (mcode k) pc = .ok (.i2l, len)) (h : stepI call k (.i2l) len pc ls st M C) : W p l e RR s m args below meth c H locs cells slots Q (F0 m pc lsr (st.map (mrv base b))) := by
  obtain ⟨rfl, x, t, rfl, hc⟩ := h
  obtain ⟨ox, ot⟩ := ok_1 hR.2.2.1
  have ox2 : inI x := ox
  exact lv_i2l (x := Int32.ofInt x) (rest := t.map (mrv base b)) F.1 F.2.1 hd (oi_l ox2) ((hC _ _ _ _ hc).2 lsr H locs cells slots (hR.sk (ok_c (y := vl x) (by unfold inI at ox2; show inL x; unfold inL; omega) ot)))
theorem z_l2i  (F : mFix p s m args meth c D cI cZ cW base b k) (hC : SimC p l e RR s m args below meth c Q D cI cZ cW base b L xs k cE sE Me C) (hR : RS D cI cZ cW base b L xs s k cE sE Me ls st M lsr H locs cells slots) (hd : decode (mcode k) pc = .ok (.l2i, len)) (h : stepI call k (.l2i) len pc ls st M C) : W p l e RR s m args below meth c H locs cells slots Q (F0 m pc lsr (st.map (mrv base b))) := by
  obtain ⟨rfl, x, t, rfl, hc⟩ := h
  obtain ⟨ox, ot⟩ := ok_1 hR.2.2.1
  exact lv_l2i (x := Int64.ofInt x) (rest := t.map (mrv base b)) F.1 F.2.1 hd (oL_i ox) ((hC _ _ _ _ hc).2 lsr H locs cells slots (hR.sk (ok_c (y := vi (wI x)) (wI_in _) ot)))
theorem cat1 {base b : Nat} {v : MV} (h : wd v = 1) : (mrv base b v).category = 1 := by
  match v, h with
  | Sum.inl x, _ => rfl
  | Sum.inr (Sum.inr none), _ => rfl
  | Sum.inr (Sum.inr (some a)), _ => rfl
theorem z_dup  (F : mFix p s m args meth c D cI cZ cW base b k) (hC : SimC p l e RR s m args below meth c Q D cI cZ cW base b L xs k cE sE Me C) (hR : RS D cI cZ cW base b L xs s k cE sE Me ls st M lsr H locs cells slots) (hd : decode (mcode k) pc = .ok (.dup, len)) (h : stepI call k (.dup) len pc ls st M C) : W p l e RR s m args below meth c H locs cells slots Q (F0 m pc lsr (st.map (mrv base b))) := by
  obtain ⟨rfl, v, t, rfl, hw, hc⟩ := h
  obtain ⟨ox, ot⟩ := ok_1 hR.2.2.1
  exact lv_dup (va := mrv base b v) (rest := t.map (mrv base b)) F.1 F.2.1 hd (cat1 hw) ((hC _ _ _ _ hc).2 lsr H locs cells slots (hR.sk (ok_c ox (ok_c ox ot))))
theorem z_dup2  (F : mFix p s m args meth c D cI cZ cW base b k) (hC : SimC p l e RR s m args below meth c Q D cI cZ cW base b L xs k cE sE Me C) (hR : RS D cI cZ cW base b L xs s k cE sE Me ls st M lsr H locs cells slots) (hd : decode (mcode k) pc = .ok (.dup2, len)) (h : stepI call k (.dup2) len pc ls st M C) : W p l e RR s m args below meth c H locs cells slots Q (F0 m pc lsr (st.map (mrv base b))) := by
  obtain ⟨rfl, v, w, t, rfl, hw, hw2, hc⟩ := h
  obtain ⟨ox, oy, ot⟩ := ok_2 hR.2.2.1
  exact lv_dup2_11 (va := mrv base b v) (vb := mrv base b w) (rest := t.map (mrv base b)) F.1 F.2.1 hd (cat1 hw) (cat1 hw2) ((hC _ _ _ _ hc).2 lsr H locs cells slots (hR.sk (ok_c ox (ok_c oy (ok_c ox (ok_c oy ot))))))
theorem z_pop  (F : mFix p s m args meth c D cI cZ cW base b k) (hC : SimC p l e RR s m args below meth c Q D cI cZ cW base b L xs k cE sE Me C) (hR : RS D cI cZ cW base b L xs s k cE sE Me ls st M lsr H locs cells slots) (hd : decode (mcode k) pc = .ok (.pop, len)) (h : stepI call k (.pop) len pc ls st M C) : W p l e RR s m args below meth c H locs cells slots Q (F0 m pc lsr (st.map (mrv base b))) := by
  obtain ⟨rfl, v, t, rfl, hw, hc⟩ := h
  obtain ⟨ox, ot⟩ := ok_1 hR.2.2.1
  exact lv_pop (va := mrv base b v) (rest := t.map (mrv base b)) F.1 F.2.1 hd (cat1 hw) ((hC _ _ _ _ hc).2 lsr H locs cells slots (hR.sk (ot)))
theorem z_goto {off : Int} (F : mFix p s m args meth c D cI cZ cW base b k) (hC : SimC p l e RR s m args below meth c Q D cI cZ cW base b L xs k cE sE Me C) (hR : RS D cI cZ cW base b L xs s k cE sE Me ls st M lsr H locs cells slots) (hd : decode (mcode k) pc = .ok (.goto off, len)) (h : stepI call k (.goto off) len pc ls st M C) : W p l e RR s m args below meth c H locs cells slots Q (F0 m pc lsr (st.map (mrv base b))) := by
  obtain ⟨rfl, tgt, ht, hc⟩ := h
  exact lv_goto F.1 F.2.1 hd ht ((hC _ _ _ _ hc).2 lsr H locs cells slots (hR.sk (hR.2.2.1)))
theorem z_if_icmp {cc : Jvm.ClassFile.Cond} {off : Int} (F : mFix p s m args meth c D cI cZ cW base b k) (hC : SimC p l e RR s m args below meth c Q D cI cZ cW base b L xs k cE sE Me C) (hR : RS D cI cZ cW base b L xs s k cE sE Me ls st M lsr H locs cells slots) (hd : decode (mcode k) pc = .ok (.if_icmp cc off, len)) (h : stepI call k (.if_icmp cc off) len pc ls st M C) : W p l e RR s m args below meth c H locs cells slots Q (F0 m pc lsr (st.map (mrv base b))) := by
  obtain ⟨rfl, x, y, t, rfl, tgt, ht, ct, cf⟩ := h
  obtain ⟨oy, ox, ot⟩ := ok_2 hR.2.2.1
  cases cc with
  | eq => exact lv_icmp_eq (x := Int32.ofInt x) (y := Int32.ofInt y) (rest := t.map (mrv base b)) F.1 F.2.1 hd ht (fun q => (hC _ _ _ _ (ct ((oi_inj ox oy).mp q))).2 lsr H locs cells slots (hR.sk ot)) (fun q => (hC _ _ _ _ (cf (fun q2 => q ((oi_inj ox oy).mpr q2)))).2 lsr H locs cells slots (hR.sk ot))
  | ne => exact lv_icmp_ne (x := Int32.ofInt x) (y := Int32.ofInt y) (rest := t.map (mrv base b)) F.1 F.2.1 hd ht (fun q => (hC _ _ _ _ (ct (fun q2 => q ((oi_inj ox oy).mpr q2)))).2 lsr H locs cells slots (hR.sk ot)) (fun q => (hC _ _ _ _ (cf (fun q2 => q2 ((oi_inj ox oy).mp q)))).2 lsr H locs cells slots (hR.sk ot))
  | lt => exact lv_icmp_lt (x := Int32.ofInt x) (y := Int32.ofInt y) (rest := t.map (mrv base b)) F.1 F.2.1 hd ht (fun q => (hC _ _ _ _ (ct ((oi_lt ox oy).mp q))).2 lsr H locs cells slots (hR.sk ot)) (fun q => (hC _ _ _ _ (cf (fun q2 => q ((oi_lt ox oy).mpr q2)))).2 lsr H locs cells slots (hR.sk ot))
  | ge => exact lv_icmp_ge (x := Int32.ofInt x) (y := Int32.ofInt y) (rest := t.map (mrv base b)) F.1 F.2.1 hd ht (fun q => (hC _ _ _ _ (ct ((oi_le oy ox).mp q))).2 lsr H locs cells slots (hR.sk ot)) (fun q => (hC _ _ _ _ (cf (fun q2 => q ((oi_le oy ox).mpr q2)))).2 lsr H locs cells slots (hR.sk ot))
  | gt => exact lv_icmp_gt (x := Int32.ofInt x) (y := Int32.ofInt y) (rest := t.map (mrv base b)) F.1 F.2.1 hd ht (fun q => (hC _ _ _ _ (ct ((oi_lt oy ox).mp q))).2 lsr H locs cells slots (hR.sk ot)) (fun q => (hC _ _ _ _ (cf (fun q2 => q ((oi_lt oy ox).mpr q2)))).2 lsr H locs cells slots (hR.sk ot))
  | le => exact lv_icmp_le (x := Int32.ofInt x) (y := Int32.ofInt y) (rest := t.map (mrv base b)) F.1 F.2.1 hd ht (fun q => (hC _ _ _ _ (ct ((oi_le ox oy).mp q))).2 lsr H locs cells slots (hR.sk ot)) (fun q => (hC _ _ _ _ (cf (fun q2 => q ((oi_le ox oy).mpr q2)))).2 lsr H locs cells slots (hR.sk ot))
theorem z_ifCond {cc : Jvm.ClassFile.Cond} {off : Int} (F : mFix p s m args meth c D cI cZ cW base b k) (hC : SimC p l e RR s m args below meth c Q D cI cZ cW base b L xs k cE sE Me C) (hR : RS D cI cZ cW base b L xs s k cE sE Me ls st M lsr H locs cells slots) (hd : decode (mcode k) pc = .ok (.ifCond cc off, len)) (h : stepI call k (.ifCond cc off) len pc ls st M C) : W p l e RR s m args below meth c H locs cells slots Q (F0 m pc lsr (st.map (mrv base b))) := by
  obtain ⟨rfl, x, t, rfl, tgt, ht, ct, cf⟩ := h
  obtain ⟨ox, ot⟩ := ok_1 hR.2.2.1
  have o0 : inI 0 := ⟨by decide, by decide⟩
  cases cc with
  | eq => exact lv_if_eq (x := Int32.ofInt x) (rest := t.map (mrv base b)) F.1 F.2.1 hd ht (fun q => (hC _ _ _ _ (ct ((oi_inj ox o0).mp (oi_0 ▸ q)))).2 lsr H locs cells slots (hR.sk ot)) (fun q => (hC _ _ _ _ (cf (fun q2 => q (oi_0 ▸ (oi_inj ox o0).mpr q2)))).2 lsr H locs cells slots (hR.sk ot))
  | ne => exact lv_if_ne (x := Int32.ofInt x) (rest := t.map (mrv base b)) F.1 F.2.1 hd ht (fun q => (hC _ _ _ _ (ct (fun q2 => q (oi_0 ▸ (oi_inj ox o0).mpr q2)))).2 lsr H locs cells slots (hR.sk ot)) (fun q => (hC _ _ _ _ (cf (fun q2 => q2 ((oi_inj ox o0).mp (oi_0 ▸ q))))).2 lsr H locs cells slots (hR.sk ot))
  | lt => exact lv_if_lt (x := Int32.ofInt x) (rest := t.map (mrv base b)) F.1 F.2.1 hd ht (fun q => (hC _ _ _ _ (ct ((oi_lt ox o0).mp (oi_0 ▸ q)))).2 lsr H locs cells slots (hR.sk ot)) (fun q => (hC _ _ _ _ (cf (fun q2 => q (oi_0 ▸ (oi_lt ox o0).mpr q2)))).2 lsr H locs cells slots (hR.sk ot))
  | ge => exact lv_if_ge (x := Int32.ofInt x) (rest := t.map (mrv base b)) F.1 F.2.1 hd ht (fun q => (hC _ _ _ _ (ct ((oi_le o0 ox).mp (oi_0 ▸ q)))).2 lsr H locs cells slots (hR.sk ot)) (fun q => (hC _ _ _ _ (cf (fun q2 => q (oi_0 ▸ (oi_le o0 ox).mpr q2)))).2 lsr H locs cells slots (hR.sk ot))
  | gt => exact lv_if_gt (x := Int32.ofInt x) (rest := t.map (mrv base b)) F.1 F.2.1 hd ht (fun q => (hC _ _ _ _ (ct ((oi_lt o0 ox).mp (oi_0 ▸ q)))).2 lsr H locs cells slots (hR.sk ot)) (fun q => (hC _ _ _ _ (cf (fun q2 => q (oi_0 ▸ (oi_lt o0 ox).mpr q2)))).2 lsr H locs cells slots (hR.sk ot))
  | le => exact lv_if_le (x := Int32.ofInt x) (rest := t.map (mrv base b)) F.1 F.2.1 hd ht (fun q => (hC _ _ _ _ (ct ((oi_le ox o0).mp (oi_0 ▸ q)))).2 lsr H locs cells slots (hR.sk ot)) (fun q => (hC _ _ _ _ (cf (fun q2 => q (oi_0 ▸ (oi_le ox o0).mpr q2)))).2 lsr H locs cells slots (hR.sk ot))
theorem z_ifnull {off : Int} (F : mFix p s m args meth c D cI cZ cW base b k) (hC : SimC p l e RR s m args below meth c Q D cI cZ cW base b L xs k cE sE Me C) (hR : RS D cI cZ cW base b L xs s k cE sE Me ls st M lsr H locs cells slots) (hd : decode (mcode k) pc = .ok (.ifnull off, len)) (h : stepI call k (.ifnull off) len pc ls st M C) : W p l e RR s m args below meth c H locs cells slots Q (F0 m pc lsr (st.map (mrv base b))) := by
  obtain ⟨rfl, q, t, rfl, tgt, ht, ct, cf⟩ := h
  obtain ⟨-, ot⟩ := ok_1 hR.2.2.1
  cases q with
  | none => exact lv_ifnullN (rest := t.map (mrv base b)) F.1 F.2.1 hd ht ((hC _ _ _ _ (ct rfl)).2 lsr H locs cells slots (hR.sk ot))
  | some a => exact lv_ifnull (rest := t.map (mrv base b)) F.1 F.2.1 hd ((hC _ _ _ _ (cf (by simp))).2 lsr H locs cells slots (hR.sk ot))
theorem z_ifnonnull {off : Int} (F : mFix p s m args meth c D cI cZ cW base b k) (hC : SimC p l e RR s m args below meth c Q D cI cZ cW base b L xs k cE sE Me C) (hR : RS D cI cZ cW base b L xs s k cE sE Me ls st M lsr H locs cells slots) (hd : decode (mcode k) pc = .ok (.ifnonnull off, len)) (h : stepI call k (.ifnonnull off) len pc ls st M C) : W p l e RR s m args below meth c H locs cells slots Q (F0 m pc lsr (st.map (mrv base b))) := by
  obtain ⟨rfl, q, t, rfl, tgt, ht, ct, cf⟩ := h
  obtain ⟨-, ot⟩ := ok_1 hR.2.2.1
  cases q with
  | none => exact lv_ifnonnullN (rest := t.map (mrv base b)) F.1 F.2.1 hd ((hC _ _ _ _ (cf rfl)).2 lsr H locs cells slots (hR.sk ot))
  | some a => exact lv_ifnonnull (rest := t.map (mrv base b)) F.1 F.2.1 hd ht ((hC _ _ _ _ (ct (by simp))).2 lsr H locs cells slots (hR.sk ot))
theorem z_tableswitch {df lo hi : Int} {offs : Array Int} (F : mFix p s m args meth c D cI cZ cW base b k) (hC : SimC p l e RR s m args below meth c Q D cI cZ cW base b L xs k cE sE Me C) (hR : RS D cI cZ cW base b L xs s k cE sE Me ls st M lsr H locs cells slots) (hd : decode (mcode k) pc = .ok (.tableswitch df lo hi offs, len)) (h : stepI call k (.tableswitch df lo hi offs) len pc ls st M C) : W p l e RR s m args below meth c H locs cells slots Q (F0 m pc lsr (st.map (mrv base b))) := by
  obtain ⟨x, t, rfl, h | h⟩ := h
  · obtain ⟨h1, tgt, ht, hc⟩ := h
    obtain ⟨ox, ot⟩ := ok_1 hR.2.2.1
    exact lv_tableOut (x := Int32.ofInt x) (rest := t.map (mrv base b)) F.1 F.2.1 hd (by rw [oi_to ox]; exact h1) ht ((hC _ _ _ _ hc).2 lsr H locs cells slots (hR.sk ot))
  · obtain ⟨h1, h2, off, tgt, ho, ht, hc⟩ := h
    obtain ⟨ox, ot⟩ := ok_1 hR.2.2.1
    exact lv_tableIn (x := Int32.ofInt x) (rest := t.map (mrv base b)) F.1 F.2.1 hd (by rw [oi_to ox]; exact h1) (by rw [oi_to ox]; exact h2) (by rw [oi_to ox]; exact ho) ht ((hC _ _ _ _ hc).2 lsr H locs cells slots (hR.sk ot))
end SIMC
end
section
/-! the rows of the kit for the instructions that touch the heap -/
theorem tb_pool {c idx : Nat} {v : Nat × Nat × Nat} (h : pool c idx = some v) : ∃ pos : Nat, chkP c (idx, v, pos) = true := by
  unfold pool pfind at h
  cases hf : (ptabs.getD c []).find? (fun r => r.1 == idx) with
  | none => rw [hf] at h; cases h
  | some r =>
    rw [hf] at h
    have hx : r.2.1 = v := Option.some.inj h
    have hm := List.mem_of_find?_eq_some hf
    have h1 : r.1 = idx := by simpa using List.find?_some hf
    refine ⟨r.2.2, ?_⟩
    have h2 := chkP_c hm
    rw [← hx, ← h1]
    exact h2
theorem tb_fld {c0 idx g c j : Nat} (h : pool c0 idx = some (g, c, j)) (hg : g = 1 ∨ g = 2 ∨ g = 3) : ∃ q : vw_C, cks[c]? = some q ∧ j < q.2.2 ∧ Cond.fieldLink (cn c0) idx (q.2.1 j).1 (q.2.1 j).2.1 (q.2.1 j).2.2.1 ∈ gtl ∧ (q.2.1 j).1 = q.1 ∧ q.1 = cn c ∧ ft c j = g ∧ (q.2.1 j).2.2.2 = fn c j ∧
    (g = 1 → (q.2.1 j).2.2.1 = "I") ∧ (g = 2 → (q.2.1 j).2.2.1 = "Z") ∧ (g = 3 → ∃ ty : FieldType, parseFieldDescriptor (q.2.1 j).2.2.1 = some ty ∧ ∀ a : Nat, narrow ty (.ref a) = .ref a ∧ fits ty (.ref a) = true) := by
  obtain ⟨pos, hp⟩ := tb_pool h
  have hc : chkF c0 idx c j pos g = true := by
    rcases hg with rfl | rfl | rfl <;> exact hp
  unfold chkF at hc
  cases hq : cks[c]? with
  | none => rw [hq] at hc; cases hc
  | some q =>
    rw [hq] at hc
    simp only [Bool.and_eq_true, decide_eq_true_eq] at hc
    obtain ⟨⟨⟨⟨⟨⟨h1, h2⟩, h3⟩, h4⟩, h5⟩, h6⟩, h7⟩ := hc
    refine ⟨q, rfl, h1, tb_in h2, h3, h4, h5, h6, fun e => ?_, fun e => ?_, fun e => ?_⟩
    · subst e; exact of_decide_eq_true h7
    · subst e; exact of_decide_eq_true h7
    · subst e
      change (match parseFieldDescriptor (q.2.1 j).2.2.1 with
        | some (.object _) => true
        | some (.array _) => true
        | _ => false) = true at h7
      split at h7
      · rename_i C hC
        exact ⟨_, hC, fun a => ⟨rfl, rfl⟩⟩
      · rename_i t hC
        exact ⟨_, hC, fun a => ⟨rfl, rfl⟩⟩
      · cases h7
theorem tb_cls {c : Nat} {q : vw_C} (h : cks[c]? = some q) : (∀ w ∈ u_ws q.1 q.2.1 q.2.2, w ∈ gtl) ∧ (∀ a, a < q.2.2 → ∀ b, b < q.2.2 → a ≠ b → (q.2.1 a).2.1 ≠ (q.2.1 b).2.1) ∧ Cond.instantiable q.1 q.2.2 ∈ gtl ∧ Cond.initialized q.1 ∈ gtl ∧ q.1 = cn c ∧
    ∃ ty : Nat → FieldType, (∀ a, a < q.2.2 → parseFieldDescriptor (q.2.1 a).2.2.1 = some (ty a)) ∧ ∀ a, a < q.2.2 → defaultValue (ty a) = if ft c a = 3 then .null else .int 0 := by
  have hc : c < 13 := by
    rcases Nat.lt_or_ge c 13 with hl | hl
    · exact hl
    · rw [List.getElem?_eq_none (show cks.length ≤ c from hl)] at h; cases h
  have h0 := List.all_eq_true.mp chkK_all c (List.mem_range.mpr hc)
  unfold chkK at h0
  rw [h] at h0
  simp only [Bool.and_eq_true, decide_eq_true_eq] at h0
  obtain ⟨⟨⟨⟨⟨h1, h2⟩, h3, h3g⟩, h4, h4g⟩, h5⟩, h6⟩ := h0
  have hty : ∀ a, a < q.2.2 → ∃ ty : FieldType, parseFieldDescriptor (q.2.1 a).2.2.1 = some ty ∧ defaultValue ty = if ft c a = 3 then .null else .int 0 := by
    intro a ha
    have h7 := List.all_eq_true.mp h6 a (List.mem_range.mpr ha)
    split at h7
    · rename_i hp; rw [decide_eq_true_eq] at h7; exact ⟨_, hp, by rw [h7]; rfl⟩
    · rename_i hp; rw [decide_eq_true_eq] at h7; exact ⟨_, hp, by rw [h7]; rfl⟩
    · rename_i hp; rw [decide_eq_true_eq] at h7; exact ⟨_, hp, by rw [h7]; rfl⟩
    · rename_i hp; rw [decide_eq_true_eq] at h7; exact ⟨_, hp, by rw [h7]; rfl⟩
    · cases h7
  refine ⟨fun w hw => ?_, fun a ha b hb hab => ?_, gtl_of h3 h3g, gtl_of h4 h4g, h5, fun a => if ha : a < q.2.2 then Classical.choose (hty a ha) else .int, fun a ha => ?_, fun a ha => ?_⟩
  · have h8 := List.all_eq_true.mp h1 w hw
    simp only [Bool.and_eq_true, decide_eq_true_eq] at h8
    exact gtl_of h8.2 h8.1
  · have h8 := List.all_eq_true.mp (List.all_eq_true.mp h2 a (List.mem_range.mpr ha)) b (List.mem_range.mpr hb)
    simp only [Bool.or_eq_true, decide_eq_true_eq] at h8
    exact h8.resolve_left hab
  · dsimp only; rw [dif_pos ha]; exact (Classical.choose_spec (hty a ha)).1
  · dsimp only; rw [dif_pos ha]; exact (Classical.choose_spec (hty a ha)).2
theorem up_eq {α : Type} {f : Nat → Nat → α} {a j : Nat} {x : α} : up f a j x a j = x := if_pos ⟨rfl, rfl⟩
theorem up_nej {α : Type} {f : Nat → Nat → α} {a i j : Nat} {x : α} (h : ¬ i = j) : up f a j x a i = f a i := if_neg (fun q => h q.2)
theorem up_nea {α : Type} {f : Nat → Nat → α} {a b j : Nat} {x : α} (h : b ≠ a) : up f a j x b = f b := by funext i; exact if_neg (fun q => h q.1)
theorem mad_pos {base b a : Nat} (h : 1 ≤ a) : mad base b a = base + (a - 1) := by unfold mad; rw [if_neg (by omega)]
theorem mok_lt {L : Nat} {xs : Nat → Int32} {s : Nat} {K : Nat → Nat × Nat} {I : Nat → Nat → Int} (h : mok L xs s K I) {a g n : Nat} (ha : K a = (g, n)) (h1 : g ≠ 23) (h2 : g ≠ 99) : 1 ≤ a ∧ a < s := by
  obtain ⟨-, k0, k1, -⟩ := h
  constructor
  · rcases Nat.eq_zero_or_pos a with q | q
    · subst q; rw [k0] at ha; cases ha; exact absurd rfl h1
    · exact q
  · rcases Nat.lt_or_ge a s with q | q
    · exact q
    · rw [k1 a q] at ha; cases ha; exact absurd rfl h2
theorem mok_up {L : Nat} {xs : Nat → Int32} {s : Nat} {K : Nat → Nat × Nat} {I : Nat → Nat → Int} (h : mok L xs s K I) {a j : Nat} {x : Int} (ha : 1 ≤ a) (hx : inI x) (hz : ∀ n, K a = (21, n) → x = 0 ∨ x = 1) : mok L xs s K (up I a j x) := by
  obtain ⟨h1, h2, h3, h4, h5, h6, h7, h8⟩ := h
  refine ⟨h1, h2, h3, fun b i => ?_, fun b n i hb => ?_, fun i hi => ?_, h7, h8⟩
  · unfold up; split
    · exact hx
    · exact h4 b i
  · unfold up; split
    · rename_i q; exact hz n (q.1 ▸ hb)
    · exact h5 b n i hb
  · unfold up; rw [if_neg (by omega)]; exact h6 i hi
theorem mok_new {L : Nat} {xs : Nat → Int32} {s : Nat} {K : Nat → Nat × Nat} {I : Nat → Nat → Int} (h : mok L xs s K I) {g n : Nat} (h23 : g ≠ 23) (hn : n < 2147483648) : mok L xs (s + 1) (upk K s (g, n)) (upz I s 0) := by
  obtain ⟨h1, h2, h3, h4, h5, h6, h7, h8⟩ := h
  refine ⟨by omega, ?_, fun b hb => ?_, fun b i => ?_, fun b m i hb => ?_, fun i hi => ?_, fun b hb => ?_, fun b => ?_⟩
  · unfold upk; rw [if_neg (by omega)]; exact h2
  · unfold upk; rw [if_neg (by omega)]; exact h3 b (by omega)
  · unfold upz; split
    · exact ⟨by decide, by decide⟩
    · exact h4 b i
  · unfold upz; split
    · exact Or.inl rfl
    · rename_i q; unfold upk at hb; rw [if_neg q] at hb; exact h5 b m i hb
  · unfold upz; rw [if_neg (by omega)]; exact h6 i hi
  · unfold upk; split
    · exact h23
    · exact h7 b hb
  · unfold upk; split
    · exact hn
    · exact h8 b
theorem mHR_put {D : va_G} {cI cZ cW : ClassId} {base b L : Nat} {xs : Nat → Int32} {M M2 : MM} {H H2 : Heap} {a : Nat} (h : mHR D cI cZ cW base b L xs M H) (ha : 1 ≤ a) (e1 : M2.1 = M.1) (eK : M2.2.2.1 = M.2.2.1) (eR : ∀ x, x ≠ a → M2.2.2.2.1 x = M.2.2.2.1 x) (eI : ∀ x, x ≠ a → M2.2.2.2.2 x = M.2.2.2.2 x)
    (ho : mok L xs M2.1 M2.2.2.1 M2.2.2.2.2) (hz : H2.size = H.size) (hq : ∀ q, q ≠ base + (a - 1) → H2[q]? = H[q]?) (hc : mcell D cI cZ cW base b M2.2.2.1 M2.2.2.2.1 M2.2.2.2.2 a H2) : mHR D cI cZ cW base b L xs M2 H2 := by
  refine ⟨ho, by rw [e1, hz]; exact h.2.1, h.2.2.1, fun x h1 h2 => ?_⟩
  by_cases hx : x = a
  · subst hx; exact hc
  · exact (h.2.2.2 x h1 (e1 ▸ h2)).kept (by rw [eK]) (eR x hx) (eI x hx) (hq _ (by omega))
section SIMD
variable {p : Program} {l : Launch} {e : Env} {RR : Room} {s : State} {m : MethodId} {args : Array Value} {below : List Frame} {meth : Method} {c : Code} {Q : State → Prop} {D : va_G} {cI cZ cW : ClassId} {base b L : Nat} {xs : Nat → Int32} {k cE sE : Nat} {Me : MM} {C : Nx} {call : Cl}
variable {ls st : List MV} {M : MM} {lsr : Array Slot} {H : Heap} {locs : List Loc} {cells slots pc len : Nat}
theorem RS.me (hR : RS D cI cZ cW base b L xs s k cE sE Me ls st M lsr H locs cells slots) {t : List MV} {M2 : MM} {H2 : Heap} {a i : Nat} (ot : ∀ v ∈ t, vok v) (hb : b < base) (hm : mHR D cI cZ cW base b L xs M2 H2) (e1 : M2.1 = M.1) (e2 : M2.2.1 = M.2.1) (hq : ∀ q, q ≠ base + (a - 1) → H2[q]? = H[q]?) :
    RS D cI cZ cW base b L xs s k cE sE Me ls t M2 lsr H2 (locs ++ [⟨base + (a - 1), i⟩]) cells slots := by
  refine ⟨hR.1, hR.2.1, ot, hm, hR.2.2.2.2.1.kept (hq b (by omega)), fun q hq => ?_, by rw [e1]; exact hR.2.2.2.2.2.2.1, by rw [e2]; exact hR.2.2.2.2.2.2.2⟩
  rcases List.mem_append.mp hq with h1 | h1
  · exact hR.2.2.2.2.2.1 q h1
  · rw [List.mem_singleton.mp h1]
    exact Nat.le_add_right _ _
theorem z_getfield {idx : Nat} (F : mFix p s m args meth c D cI cZ cW base b k) (hC : SimC p l e RR s m args below meth c Q D cI cZ cW base b L xs k cE sE Me C) (hR : RS D cI cZ cW base b L xs s k cE sE Me ls st M lsr H locs cells slots) (hd : decode (mcode k) pc = .ok (.getfield idx, len)) (h : stepI call k (.getfield idx) len pc ls st M C) : W p l e RR s m args below meth c H locs cells slots Q (F0 m pc lsr (st.map (mrv base b))) := by
  obtain ⟨rfl, g, cc, j, a, t, v, rfl, hp, ha, hv, hc⟩ := h
  have hg : g = 1 ∨ g = 2 ∨ g = 3 := by
    rcases hv with q | q | q
    · exact Or.inl q.1
    · exact Or.inr (Or.inl q.1)
    · exact Or.inr (Or.inr q.1)
  obtain ⟨q, hq, hj, hl, hd1, hd2, hft, -⟩ := tb_fld hp hg
  have hcc : cc < 13 := (List.getElem?_eq_some_iff.mp hq).1
  obtain ⟨-, ot⟩ := ok_1 hR.2.2.1
  obtain ⟨hok, hsz, hbb, hcl⟩ := id hR.2.2.2.1
  obtain ⟨a1, a2⟩ := mok_lt hok ha (by omega) (by omega)
  obtain ⟨r, hr, cell, q1, q2, q3, q4⟩ := (hcl a a1 a2).1 cc ha hcc
  cases hq.symm.trans hr
  obtain ⟨hS, hfc, kC, hkC, hkind⟩ := F.2.2.2.2.2.1.1 cc _ hq
  obtain ⟨cf, kf, fi, f, hi, hsl⟩ := hS j hj
  obtain ⟨hin, -⟩ := tb_cls hq
  have hvv : mfv base b M.2.2.2.1 M.2.2.2.2 cc a j = mrv base b v ∧ vok v := by
    unfold mfv
    rcases hv with ⟨e1, e2⟩ | ⟨e1, e2⟩ | ⟨e1, e2⟩ <;> subst e1 <;> subst e2
    · rw [if_neg (by omega)]; exact ⟨rfl, hok.2.2.2.1 a j⟩
    · rw [if_neg (by omega)]; exact ⟨rfl, hok.2.2.2.1 a j⟩
    · rw [if_pos hft]; exact ⟨rfl, trivial⟩
  have hx := (hC _ _ _ _ hc).2 lsr H locs cells slots (hR.sk (ok_c hvv.2 ot))
  have e0 : mrv base b (vr a) = .ref (base + (a - 1)) := by show Value.ref (mad base b a) = _; rw [mad_pos a1]
  rw [List.map_cons, e0]
  refine W.getf F.1 F.2.1 F.2.2.2.1 (F.2.2.2.2.1 _ hl) (by rw [hd1] at *; exact hi) (u_facts hfc hkC (u_lays F.2.2.2.2.1 hin hj) hi).1 q1 (by rw [q3]; exact fun h => by cases h) (v := mrv base b v) ?_ rfl rfl hd hx
  rw [hsl, q4 j hj, hvv.1]
theorem z_putfield {idx : Nat} (F : mFix p s m args meth c D cI cZ cW base b k) (hC : SimC p l e RR s m args below meth c Q D cI cZ cW base b L xs k cE sE Me C) (hR : RS D cI cZ cW base b L xs s k cE sE Me ls st M lsr H locs cells slots) (hd : decode (mcode k) pc = .ok (.putfield idx, len)) (h : stepI call k (.putfield idx) len pc ls st M C) : W p l e RR s m args below meth c H locs cells slots Q (F0 m pc lsr (st.map (mrv base b))) := by
  obtain ⟨rfl, g, cc, j, a, t, v, M2, rfl, hp, ha, hfn, hv, hc⟩ := h
  have hg : g = 1 ∨ g = 2 ∨ g = 3 := by
    rcases hv with q | q | q
    · exact Or.inl q.1
    · exact Or.inr (Or.inl q.1)
    · exact Or.inr (Or.inr q.1)
  obtain ⟨q, hq, hj, hl, hd1, hd2, hft, hfin, g1, g2, g3⟩ := tb_fld hp hg
  have hcc : cc < 13 := (List.getElem?_eq_some_iff.mp hq).1
  obtain ⟨ov, -, ot⟩ := ok_2 hR.2.2.1
  obtain ⟨hok, hsz, hbb, hcl⟩ := id hR.2.2.2.1
  obtain ⟨a1, a2⟩ := mok_lt hok ha (by omega) (by omega)
  obtain ⟨r, hr, cell, q1, q2, q3, q4⟩ := (hcl a a1 a2).1 cc ha hcc
  cases hq.symm.trans hr
  obtain ⟨hS, hfc, kC, hkC, hkind⟩ := F.2.2.2.2.2.1.1 cc _ hq
  obtain ⟨cf, kf, fi, f, hi, hsl⟩ := hS j hj
  obtain ⟨hin, hnm, -, -, -, ty, hty, -⟩ := tb_cls hq
  have hap := va_apart (own := cn (mcls k)) F.2.2.2.2.1 hin ty hty hnm F.2.2.2.2.2.1 hq
  have hfit : ∃ ty : FieldType, parseFieldDescriptor (q.2.1 j).2.2.1 = some ty ∧ narrow ty (mrv base b v) = mrv base b v ∧ fits ty (mrv base b v) = true := by
    rcases hv with ⟨e1, x, e2, -⟩ | ⟨e1, x, e2, hx, -⟩ | ⟨e1, x, e2, -⟩ <;> subst e1 <;> subst e2
    · exact ⟨.int, by rw [g1 rfl]; rfl, rfl, rfl⟩
    · refine ⟨.boolean, by rw [g2 rfl]; rfl, ?_, ?_⟩
      · rcases hx with rfl | rfl <;> rfl
      · rcases hx with rfl | rfl <;> rfl
    · obtain ⟨ty, t1, t2⟩ := g3 rfl
      exact ⟨ty, t1, (t2 _).1, (t2 _).2⟩
  obtain ⟨ty1, t1, t2, t3⟩ := hfit
  have e0 : mrv base b (vr a) = .ref (base + (a - 1)) := by show Value.ref (mad base b a) = _; rw [mad_pos a1]
  have hm2 : M2.1 = M.1 ∧ M2.2.1 = M.2.1 ∧ M2.2.2.1 = M.2.2.1 ∧ (∀ x, x ≠ a → M2.2.2.2.1 x = M.2.2.2.1 x) ∧ (∀ x, x ≠ a → M2.2.2.2.2 x = M.2.2.2.2 x) ∧ mok L xs M2.1 M2.2.2.1 M2.2.2.2.2 ∧ ∀ i, updV (mfv base b M.2.2.2.1 M.2.2.2.2 cc a) j (mrv base b v) i = mfv base b M2.2.2.2.1 M2.2.2.2.2 cc a i := by
    have oj : ∀ x, x ≠ a → ∀ y : Int, up M.2.2.2.2 a j y x = M.2.2.2.2 x := fun x hx y => by funext i; unfold up; rw [if_neg (fun q => hx q.1)]
    have nz : ∀ n, M.2.2.1 a ≠ (21, n) := fun n h9 => by rw [ha] at h9; injection h9; omega
    rcases hv with ⟨e1, x, e2, e3⟩ | ⟨e1, x, e2, hx, e3⟩ | ⟨e1, x, e2, e3⟩ <;> subst e1 <;> subst e2 <;> subst e3
    · refine ⟨rfl, rfl, rfl, fun _ _ => rfl, fun x2 h2 => oj x2 h2 x, mok_up hok a1 ov (fun n h9 => absurd h9 (nz n)), fun i => ?_⟩
      unfold updV mfv
      by_cases hij : i = j
      · subst hij
        rw [if_pos rfl]
        show _ = (if ft cc i = 3 then va_rf (Option.map (mad base b) (M.2.2.2.1 a i)) else Value.int (Int32.ofInt (up M.2.2.2.2 a i x a i)))
        rw [if_neg (by omega), up_eq]; rfl
      · rw [if_neg hij]
        show _ = (if ft cc i = 3 then va_rf (Option.map (mad base b) (M.2.2.2.1 a i)) else Value.int (Int32.ofInt (up M.2.2.2.2 a j x a i)))
        rw [up_nej hij]
    · refine ⟨rfl, rfl, rfl, fun _ _ => rfl, fun x2 h2 => oj x2 h2 x, mok_up hok a1 ov (fun n h9 => absurd h9 (nz n)), fun i => ?_⟩
      unfold updV mfv
      by_cases hij : i = j
      · subst hij
        rw [if_pos rfl]
        show _ = (if ft cc i = 3 then va_rf (Option.map (mad base b) (M.2.2.2.1 a i)) else Value.int (Int32.ofInt (up M.2.2.2.2 a i x a i)))
        rw [if_neg (by omega), up_eq]; rfl
      · rw [if_neg hij]
        show _ = (if ft cc i = 3 then va_rf (Option.map (mad base b) (M.2.2.2.1 a i)) else Value.int (Int32.ofInt (up M.2.2.2.2 a j x a i)))
        rw [up_nej hij]
    · refine ⟨rfl, rfl, rfl, fun x2 h2 => by funext i; show up _ _ _ _ _ _ = _; unfold up; rw [if_neg (fun q => h2 q.1)], fun _ _ => rfl, hok, fun i => ?_⟩
      unfold updV mfv
      by_cases hij : i = j
      · subst hij
        rw [if_pos rfl]
        show _ = (if ft cc i = 3 then va_rf (Option.map (mad base b) (up M.2.2.2.1 a i (some x) a i)) else Value.int (Int32.ofInt (M.2.2.2.2 a i)))
        rw [if_pos hft, up_eq]; rfl
      · rw [if_neg hij]
        show _ = (if ft cc i = 3 then va_rf (Option.map (mad base b) (up M.2.2.2.1 a j (some x) a i)) else Value.int (Int32.ofInt (M.2.2.2.2 a i)))
        rw [up_nej hij]
  obtain ⟨m1, m2, m3, m4, m5, m6, m7⟩ := hm2
  have key : ∀ H2 : Heap, H2[base + (a - 1)]? = some (cell.setSlot f.slot (mrv base b v)) → H2.size = H.size → (∀ q, q ≠ base + (a - 1) → H2[q]? = H[q]?) → W p l e RR s m args below meth c H2 (locs ++ [⟨base + (a - 1), f.slot⟩]) cells slots Q (F0 m (pc + 3) lsr (t.map (mrv base b))) := by
    intro H2 x1 x2 x3
    rw [hsl] at x1
    refine (hC _ _ _ _ hc).2 lsr H2 _ cells slots (hR.me ot hbb (mHR_put hR.2.2.2.1 a1 m1 m3 m4 m5 m6 x2 x3 ⟨fun c2 h2 h3 => ?_, fun n h2 => ?_, fun n h2 => ?_, fun n h2 => ?_⟩) m1 m2 x3)
    · rw [m3, ha] at h2
      cases h2
      exact ⟨q, hq, t_OB.to (V := updV (mfv base b M.2.2.2.1 M.2.2.2.2 cc a) j (mrv base b v)) ⟨_, x1, q2, q3, t_set q4 hap hj _⟩ (fun i _ => m7 i)⟩
    · rw [m3, ha] at h2; injection h2; omega
    · rw [m3, ha] at h2; injection h2; omega
    · rw [m3, ha] at h2; injection h2; omega
  rw [List.map_cons, List.map_cons, e0]
  have hlay := F.2.2.2.2.1 _ (hin _ (u_in_lay hj))
  have hst := (u_facts hfc hkC (u_lays F.2.2.2.2.1 hin hj) hi).1
  unfold u_lay at hlay
  cases hb1 : fn cc j with
  | false =>
    rw [if_neg (by rw [hfin, hb1]; decide)] at hlay
    have h6 := u_store hfc hkC hkind hlay hi t1 t2 t3
    exact W.putK F.1 F.2.1 (f := f) ⟨F.2.2.2.1, F.2.2.2.2.1 _ hl, ⟨_, _, _, hi⟩, hst⟩ (by rw [q2]; exact h6) q1 q3 (by rw [hsl]; exact k2_hasslot (q4 j hj)) rfl rfl hd key
  | true =>
    rw [if_pos (by rw [hfin, hb1])] at hlay
    rcases hfn with h9 | ⟨h9, h10⟩
    · rw [hb1] at h9; cases h9
    have hcf : m.cls = cf := by
      obtain ⟨_, _, c', _, _, _, -, -, hf', -, -, -, hown2, -⟩ := Cond.laysFinal_spec hlay
      have e1 : c' = cf := by have := hi.symm.trans hf'; simp at this; exact this.1.symm
      have e2 : s.vm.findClass (q.2.1 j).1 = some m.cls := by rw [hd1, hd2, ← h10]; exact F.2.2.2.1
      rw [← e1]; exact Option.some.inj (e2.symm.trans hown2)
    have h6 := u_fits hfc hkC hkind (Or.inr hlay) hi t1 t2 t3
    exact W.putFinK F.1 F.2.1 F.2.2.2.1 (F.2.2.2.2.1 _ hl) hi hst hcf (F.2.2.2.2.2.2.2.1 h9) (by rw [q2]; exact h6) q1 q3 (by rw [hsl]; exact k2_hasslot (q4 j hj)) rfl rfl hd key
end SIMD
end
section
section SIME
variable {p : Program} {l : Launch} {e : Env} {RR : Room} {s : State} {m : MethodId} {args : Array Value} {below : List Frame} {meth : Method} {c : Code} {Q : State → Prop} {D : va_G} {cI cZ cW : ClassId} {base b L : Nat} {xs : Nat → Int32} {k cE sE : Nat} {Me : MM} {C : Nx} {call : Cl}
variable {ls st : List MV} {M : MM} {lsr : Array Slot} {H : Heap} {locs : List Loc} {cells slots pc len : Nat}
theorem z_iaload  (F : mFix p s m args meth c D cI cZ cW base b k) (hC : SimC p l e RR s m args below meth c Q D cI cZ cW base b L xs k cE sE Me C) (hR : RS D cI cZ cW base b L xs s k cE sE Me ls st M lsr H locs cells slots) (hd : decode (mcode k) pc = .ok (.iaload, len)) (h : stepI call k (.iaload) len pc ls st M C) : W p l e RR s m args below meth c H locs cells slots Q (F0 m pc lsr (st.map (mrv base b))) := by
  obtain ⟨rfl, i, a, t, n, rfl, ha | ha, h0, h1, hc⟩ := h
  · obtain ⟨oi, -, ot⟩ := ok_2 hR.2.2.1
    obtain ⟨hok, hsz, hbb, hcl⟩ := id hR.2.2.2.1
    obtain ⟨a1, a2⟩ := mok_lt hok ha (by decide) (by decide)
    have e0 : mrv base b (vr a) = .ref (base + (a - 1)) := by show Value.ref (mad base b a) = _; rw [mad_pos a1]
    have hx := (hC _ _ _ _ hc).2 lsr H locs cells slots (hR.sk (ok_c (y := vi _) (hok.2.2.2.1 a i.toNat) ot))
    rw [List.map_cons, List.map_cons, e0]
    exact W.iald (v := .int (Int32.ofInt (M.2.2.2.2 a i.toNat))) F.1 F.2.1 ((hcl a a1 a2).2.1 n ha) ((F.2.2.2.2.2.1.2 0 _ rfl).1 n _) (fun q => by cases q) (by rw [arrV_size]; exact oi_ix oi h0 h1) (by rw [oi_cl oi, arrV_read _ _ (by omega)]) rfl rfl hd hx
  · obtain ⟨oi, -, ot⟩ := ok_2 hR.2.2.1
    obtain ⟨hok, hsz, hbb, hcl⟩ := id hR.2.2.2.1
    have a0 : a = 0 := by
      rcases Nat.eq_zero_or_pos a with q | q
      · exact q
      · exact absurd (by rw [ha]) (hok.2.2.2.2.2.2.1 a q)
    subst a0
    have hn : n = L := by have := hok.2.1.symm.trans ha; injection this; omega
    subst hn
    have hx := (hC _ _ _ _ hc).2 lsr H locs cells slots (hR.sk (ok_c (y := vi _) (hok.2.2.2.1 0 i.toNat) ot))
    obtain ⟨scr, x1, x2, x3, x4, x5⟩ := hR.2.2.2.2.1
    have e1 : Value.int (Int32.ofInt (M.2.2.2.2 0 i.toNat)) = .int (xs i.toNat) := by rw [hok.2.2.2.2.2.1 _ (by omega), oi_of]
    have hx2 : W p l e RR s m args below meth c H locs cells slots Q (F0 m (pc + 1) lsr (Value.int (Int32.ofInt (M.2.2.2.2 0 i.toNat)) :: t.map (mrv base b))) := hx
    rw [e1] at hx2
    exact W.iald (a := b) (v := .int (xs i.toNat)) F.1 F.2.1 x1 x2 x3 (by rw [x4]; exact oi_ix oi h0 h1) (by rw [oi_cl oi]; exact x5 _ (by omega)) rfl rfl hd hx2
theorem z_baload  (F : mFix p s m args meth c D cI cZ cW base b k) (hC : SimC p l e RR s m args below meth c Q D cI cZ cW base b L xs k cE sE Me C) (hR : RS D cI cZ cW base b L xs s k cE sE Me ls st M lsr H locs cells slots) (hd : decode (mcode k) pc = .ok (.baload, len)) (h : stepI call k (.baload) len pc ls st M C) : W p l e RR s m args below meth c H locs cells slots Q (F0 m pc lsr (st.map (mrv base b))) := by
  obtain ⟨rfl, i, a, t, n, rfl, ha, h0, h1, hc⟩ := h
  obtain ⟨oi, -, ot⟩ := ok_2 hR.2.2.1
  obtain ⟨hok, hsz, hbb, hcl⟩ := id hR.2.2.2.1
  obtain ⟨a1, a2⟩ := mok_lt hok ha (by decide) (by decide)
  have e0 : mrv base b (vr a) = .ref (base + (a - 1)) := by show Value.ref (mad base b a) = _; rw [mad_pos a1]
  have hx := (hC _ _ _ _ hc).2 lsr H locs cells slots (hR.sk (ok_c (y := vi _) (hok.2.2.2.1 a i.toNat) ot))
  rw [List.map_cons, List.map_cons, e0]
  exact W.zald (v := .int (Int32.ofInt (M.2.2.2.2 a i.toNat))) F.1 F.2.1 ((hcl a a1 a2).2.2.1 n ha) ((F.2.2.2.2.2.1.2 1 _ rfl).1 n _) (fun q => by cases q) (by rw [arrV_size]; exact oi_ix oi h0 h1) (by rw [oi_cl oi, arrV_read _ _ (by omega)]) rfl rfl hd hx
theorem z_aaload  (F : mFix p s m args meth c D cI cZ cW base b k) (hC : SimC p l e RR s m args below meth c Q D cI cZ cW base b L xs k cE sE Me C) (hR : RS D cI cZ cW base b L xs s k cE sE Me ls st M lsr H locs cells slots) (hd : decode (mcode k) pc = .ok (.aaload, len)) (h : stepI call k (.aaload) len pc ls st M C) : W p l e RR s m args below meth c H locs cells slots Q (F0 m pc lsr (st.map (mrv base b))) := by
  obtain ⟨rfl, i, a, t, n, rfl, ha, h0, h1, hc⟩ := h
  obtain ⟨oi, -, ot⟩ := ok_2 hR.2.2.1
  obtain ⟨hok, hsz, hbb, hcl⟩ := id hR.2.2.2.1
  obtain ⟨a1, a2⟩ := mok_lt hok ha (by decide) (by decide)
  have e0 : mrv base b (vr a) = .ref (base + (a - 1)) := by show Value.ref (mad base b a) = _; rw [mad_pos a1]
  have hx := (hC _ _ _ _ hc).2 lsr H locs cells slots (hR.sk (ok_c (y := vq _) trivial ot))
  rw [List.map_cons, List.map_cons, e0]
  exact W.aald (v := va_rf ((M.2.2.2.1 a i.toNat).map (mad base b))) F.1 F.2.1 ((hcl a a1 a2).2.2.2 n ha) ((F.2.2.2.2.2.1.2 2 _ rfl).1 n _) rfl (fun q => by cases q) (by rw [arrV_size]; exact oi_ix oi h0 h1) (by rw [oi_cl oi, arrV_read _ _ (by omega)]) rfl rfl hd hx
theorem z_iastore  (F : mFix p s m args meth c D cI cZ cW base b k) (hC : SimC p l e RR s m args below meth c Q D cI cZ cW base b L xs k cE sE Me C) (hR : RS D cI cZ cW base b L xs s k cE sE Me ls st M lsr H locs cells slots) (hd : decode (mcode k) pc = .ok (.iastore, len)) (h : stepI call k (.iastore) len pc ls st M C) : W p l e RR s m args below meth c H locs cells slots Q (F0 m pc lsr (st.map (mrv base b))) := by
  obtain ⟨rfl, x, i, a, t, n, rfl, ha, h0, h1, hc⟩ := h
  obtain ⟨ox, oi, ot0⟩ := ok_2 hR.2.2.1
  obtain ⟨-, ot⟩ := ok_1 ot0
  obtain ⟨hok, hsz, hbb, hcl⟩ := id hR.2.2.2.1
  obtain ⟨a1, a2⟩ := mok_lt hok ha (by decide) (by decide)
  have e0 : mrv base b (vr a) = .ref (base + (a - 1)) := by show Value.ref (mad base b a) = _; rw [mad_pos a1]
  rw [List.map_cons, List.map_cons, List.map_cons, e0]
  refine W.iast F.1 F.2.1 ((hcl a a1 a2).2.1 n ha) ((F.2.2.2.2.2.1.2 0 _ rfl).1 n _) (fun q => by cases q) (by rw [arrV_size]; exact oi_ix oi h0 h1) rfl rfl hd fun H2 x1 x2 x3 => ?_
  rw [arrV_store, oi_cl oi] at x1
  refine (hC _ _ _ _ hc).2 lsr H2 _ cells slots (hR.me ot hbb (mHR_put hR.2.2.2.1 a1 rfl rfl (fun _ _ => rfl) (fun _ h9 => up_nea h9) (mok_up hok a1 ox (fun n2 h2 => by have h9 := ha.symm.trans h2; injection h9; omega)) x2 x3 ⟨fun c2 h2 h3 => ?_, fun n2 h2 => ?_, fun n2 h2 => ?_, fun n2 h2 => ?_⟩) rfl rfl x3)
  · have h9 := ha.symm.trans h2; injection h9; omega
  · have h9 := ha.symm.trans h2
    injection h9 with h9 h10
    subst h10
    show H2[base + (a - 1)]? = some (arrV cI n (fun j => .int (Int32.ofInt (up M.2.2.2.2 a i.toNat x a j))))
    rw [x1]
    congr 2
    funext j
    unfold updV
    by_cases hj : j = i.toNat
    · subst hj; rw [if_pos rfl, up_eq]
    · rw [if_neg hj, up_nej hj]
  · have h9 := ha.symm.trans h2; injection h9; omega
  · have h9 := ha.symm.trans h2; injection h9; omega
theorem z_bastore  (F : mFix p s m args meth c D cI cZ cW base b k) (hC : SimC p l e RR s m args below meth c Q D cI cZ cW base b L xs k cE sE Me C) (hR : RS D cI cZ cW base b L xs s k cE sE Me ls st M lsr H locs cells slots) (hd : decode (mcode k) pc = .ok (.bastore, len)) (h : stepI call k (.bastore) len pc ls st M C) : W p l e RR s m args below meth c H locs cells slots Q (F0 m pc lsr (st.map (mrv base b))) := by
  obtain ⟨rfl, x, i, a, t, n, rfl, ha, h0, h1, hz, hc⟩ := h
  obtain ⟨ox, oi, ot0⟩ := ok_2 hR.2.2.1
  obtain ⟨-, ot⟩ := ok_1 ot0
  obtain ⟨hok, hsz, hbb, hcl⟩ := id hR.2.2.2.1
  obtain ⟨a1, a2⟩ := mok_lt hok ha (by decide) (by decide)
  have e0 : mrv base b (vr a) = .ref (base + (a - 1)) := by show Value.ref (mad base b a) = _; rw [mad_pos a1]
  rw [List.map_cons, List.map_cons, List.map_cons, e0]
  refine W.zast F.1 F.2.1 ((hcl a a1 a2).2.2.1 n ha) ((F.2.2.2.2.2.1.2 1 _ rfl).1 n _) (fun q => by cases q) (by rw [arrV_size]; exact oi_ix oi h0 h1) rfl rfl hd fun H2 x1 x2 x3 => ?_
  have hnar : narrow .boolean (.int (Int32.ofInt x)) = .int (Int32.ofInt x) := by rcases hz with rfl | rfl <;> rfl
  rw [hnar, arrV_store, oi_cl oi] at x1
  refine (hC _ _ _ _ hc).2 lsr H2 _ cells slots (hR.me ot hbb (mHR_put hR.2.2.2.1 a1 rfl rfl (fun _ _ => rfl) (fun _ h9 => up_nea h9) (mok_up hok a1 ox (fun n2 h2 => hz)) x2 x3 ⟨fun c2 h2 h3 => ?_, fun n2 h2 => ?_, fun n2 h2 => ?_, fun n2 h2 => ?_⟩) rfl rfl x3)
  · have h9 := ha.symm.trans h2; injection h9; omega
  · have h9 := ha.symm.trans h2; injection h9; omega
  · have h9 := ha.symm.trans h2
    injection h9 with h9 h10
    subst h10
    show H2[base + (a - 1)]? = some (arrV cZ n (fun j => .int (Int32.ofInt (up M.2.2.2.2 a i.toNat x a j))))
    rw [x1]
    congr 2
    funext j
    unfold updV
    by_cases hj : j = i.toNat
    · subst hj; rw [if_pos rfl, up_eq]
    · rw [if_neg hj, up_nej hj]
  · have h9 := ha.symm.trans h2; injection h9; omega
theorem z_aastore  (F : mFix p s m args meth c D cI cZ cW base b k) (hC : SimC p l e RR s m args below meth c Q D cI cZ cW base b L xs k cE sE Me C) (hR : RS D cI cZ cW base b L xs s k cE sE Me ls st M lsr H locs cells slots) (hd : decode (mcode k) pc = .ok (.aastore, len)) (h : stepI call k (.aastore) len pc ls st M C) : W p l e RR s m args below meth c H locs cells slots Q (F0 m pc lsr (st.map (mrv base b))) := by
  obtain ⟨rfl, x, i, a, t, n, rfl, ha, hxk, h0, h1, hc⟩ := h
  obtain ⟨-, oi, ot0⟩ := ok_2 hR.2.2.1
  obtain ⟨-, ot⟩ := ok_1 ot0
  obtain ⟨hok, hsz, hbb, hcl⟩ := id hR.2.2.2.1
  obtain ⟨a1, a2⟩ := mok_lt hok ha (by decide) (by decide)
  have e0 : mrv base b (vr a) = .ref (base + (a - 1)) := by show Value.ref (mad base b a) = _; rw [mad_pos a1]
  obtain ⟨y1, y2⟩ := mok_lt hok hxk (by decide) (by decide)
  have e1 : mrv base b (vr x) = .ref (base + (x - 1)) := by show Value.ref (mad base b x) = _; rw [mad_pos y1]
  rw [List.map_cons, List.map_cons, List.map_cons, e0, e1]
  obtain ⟨r, hr, cell, q1, q2, q3, q4⟩ := (hcl x y1 y2).1 10 hxk (by decide)
  have hcls := (F.2.2.2.2.2.1.1 10 r hr).2
  have hr1 : r.1 = rk10 := by cases hr; rfl
  rw [hr1] at hcls
  obtain ⟨kA, comp, k1, k2, k3, -⟩ := (F.2.2.2.2.2.1.2 2 _ rfl).2
  have hcomp : comp = D.1 10 := Option.some.inj (k3.symm.trans hcls.1)
  subst hcomp
  obtain ⟨kC, hkC, -⟩ := hcls.2
  refine W.aast F.1 F.2.1 ((hcl a a1 a2).2.2.2 n ha) (fun q h => by cases h) (fun h => by cases h) k1 k2 rfl hkC ⟨oi_nn oi h0, by rw [arrV_size, oi_cl oi]; omega⟩ q1 (fun q h => by rw [q3] at h; cases h) (by rw [q2]; exact hkC) (by rw [q2]; exact va_assign hcls) rfl rfl hd fun H2 x1 x2 x3 => ?_
  rw [arrV_store, oi_cl oi] at x1
  refine (hC _ _ _ _ hc).2 lsr H2 _ cells slots (hR.me ot hbb (mHR_put hR.2.2.2.1 a1 rfl rfl (fun _ h9 => up_nea h9) (fun _ _ => rfl) hok x2 x3 ⟨fun c2 h2 h3 => ?_, fun n2 h2 => ?_, fun n2 h2 => ?_, fun n2 h2 => ?_⟩) rfl rfl x3)
  · have h9 := ha.symm.trans h2; injection h9; omega
  · have h9 := ha.symm.trans h2; injection h9; omega
  · have h9 := ha.symm.trans h2; injection h9; omega
  · have h9 := ha.symm.trans h2
    injection h9 with h9 h10
    subst h10
    show H2[base + (a - 1)]? = some (arrV cW n (fun j => va_rf ((up M.2.2.2.1 a i.toNat (some x) a j).map (mad base b))))
    rw [x1]
    congr 2
    funext j
    unfold updV
    by_cases hj : j = i.toNat
    · subst hj; rw [if_pos rfl, up_eq]; show _ = Value.ref (mad base b x); rw [mad_pos y1]
    · rw [if_neg hj, up_nej hj]
theorem z_arraylength  (F : mFix p s m args meth c D cI cZ cW base b k) (hC : SimC p l e RR s m args below meth c Q D cI cZ cW base b L xs k cE sE Me C) (hR : RS D cI cZ cW base b L xs s k cE sE Me ls st M lsr H locs cells slots) (hd : decode (mcode k) pc = .ok (.arraylength, len)) (h : stepI call k (.arraylength) len pc ls st M C) : W p l e RR s m args below meth c H locs cells slots Q (F0 m pc lsr (st.map (mrv base b))) := by
  obtain ⟨rfl, a, t, g, n, rfl, ha, hg, hc⟩ := h
  obtain ⟨-, ot⟩ := ok_1 hR.2.2.1
  obtain ⟨hok, hsz, hbb, hcl⟩ := id hR.2.2.2.1
  have hn : n < 2147483648 := by have := hok.2.2.2.2.2.2.2 a; rw [ha] at this; exact this
  have on : vok (vi (n : Int)) := by show inI _; unfold inI; omega
  have e1 : ∀ q : Nat, q = n → q.toInt32 = Int32.ofInt (n : Int) := fun q h9 => by
    subst h9
    rw [Int32.ofInt_eq_ofNat]
  have hx := (hC _ _ _ _ hc).2 lsr H locs cells slots (hR.sk (ok_c on ot))
  rcases hg with rfl | rfl | rfl | rfl
  · obtain ⟨a1, a2⟩ := mok_lt hok ha (by decide) (by decide)
    have e0 : mrv base b (vr a) = .ref (base + (a - 1)) := by show Value.ref (mad base b a) = _; rw [mad_pos a1]
    rw [List.map_cons, e0]
    exact W.alen (n := Int32.ofInt (n : Int)) F.1 F.2.1 ((hcl a a1 a2).2.1 n ha) ((F.2.2.2.2.2.1.2 0 _ rfl).1 n _) (e1 _ (arrV_size _ _ _)) rfl rfl hd hx
  · obtain ⟨a1, a2⟩ := mok_lt hok ha (by decide) (by decide)
    have e0 : mrv base b (vr a) = .ref (base + (a - 1)) := by show Value.ref (mad base b a) = _; rw [mad_pos a1]
    rw [List.map_cons, e0]
    exact W.alen (n := Int32.ofInt (n : Int)) F.1 F.2.1 ((hcl a a1 a2).2.2.1 n ha) ((F.2.2.2.2.2.1.2 1 _ rfl).1 n _) (e1 _ (arrV_size _ _ _)) rfl rfl hd hx
  · obtain ⟨a1, a2⟩ := mok_lt hok ha (by decide) (by decide)
    have e0 : mrv base b (vr a) = .ref (base + (a - 1)) := by show Value.ref (mad base b a) = _; rw [mad_pos a1]
    rw [List.map_cons, e0]
    exact W.alen (n := Int32.ofInt (n : Int)) F.1 F.2.1 ((hcl a a1 a2).2.2.2 n ha) ((F.2.2.2.2.2.1.2 2 _ rfl).1 n _) (e1 _ (arrV_size _ _ _)) rfl rfl hd hx
  · have a0 : a = 0 := by
      rcases Nat.eq_zero_or_pos a with q | q
      · exact q
      · exact absurd (by rw [ha]) (hok.2.2.2.2.2.2.1 a q)
    subst a0
    have hn : n = L := by have := hok.2.1.symm.trans ha; injection this; omega
    obtain ⟨scr, x1, x2, x3, x4, x5⟩ := hR.2.2.2.2.1
    exact W.alen (a := b) (n := Int32.ofInt (n : Int)) F.1 F.2.1 x1 x2 (e1 _ (by rw [x4, hn])) rfl rfl hd hx
theorem z_newc {idx : Nat} (hE : cE ≤ RR.cells ∧ sE ≤ RR.slots) (F : mFix p s m args meth c D cI cZ cW base b k) (hC : SimC p l e RR s m args below meth c Q D cI cZ cW base b L xs k cE sE Me C) (hR : RS D cI cZ cW base b L xs s k cE sE Me ls st M lsr H locs cells slots) (hd : decode (mcode k) pc = .ok (.new idx, len)) (h : stepI call k (.new idx) len pc ls st M C) : W p l e RR s m args below meth c H locs cells slots Q (F0 m pc lsr (st.map (mrv base b))) := by
  obtain ⟨rfl, cc, n, hp, hc⟩ := h
  have ot := hR.2.2.1
  obtain ⟨hok, hsz, hbb, hcl⟩ := id hR.2.2.2.1
  obtain ⟨pos, hpp⟩ := tb_pool hp
  have hq : ∃ q : vw_C, cks[cc]? = some q ∧ n = q.2.2 ∧ Cond.classLink (cn (mcls k)) idx q.1 ∈ gtl := by
    replace hpp : (match cks[cc]? with
      | some q => decide (n = q.2.2) && decide (q.1 = cn cc) && tb_at pos (Cond.classLink (cn (mcls k)) idx q.1)
      | none => false) = true := hpp
    cases hq : cks[cc]? with
    | none => rw [hq] at hpp; cases hpp
    | some q =>
      rw [hq] at hpp
      simp only [Bool.and_eq_true, decide_eq_true_eq] at hpp
      exact ⟨q, rfl, hpp.1.1, tb_in hpp.2⟩
  obtain ⟨q, hq, rfl, hlk⟩ := hq
  have hcc : cc < 13 := (List.getElem?_eq_some_iff.mp hq).1
  obtain ⟨hin, hnm, hins, hini, hcn, ty, hty, hdf⟩ := tb_cls hq
  have hs1 := hok.1
  have hm := (hC _ _ _ _ hc).1
  have hRc := hR.2.2.2.2.2.2.1
  have hRs := hR.2.2.2.2.2.2.2
  have hKn := F.2.2.2.2.2.1.1 cc _ hq
  have e9 : base + (M.1 - 1) = H.size := by omega
  have e0 : mrv base b (vr M.1) = .ref H.size := by show Value.ref (mad base b M.1) = _; rw [mad_pos hok.1, e9]
  have mm1 : M.1 + 1 ≤ Me.1 := hm.1
  have mm2 : M.2.1 + q.2.2 ≤ Me.2.1 := hm.2
  refine W.newcK F.1 F.2.1 F.2.2.2.1 (F.2.2.2.2.1 _ hlk) (F.2.2.2.2.1 _ hins) (F.2.2.2.2.1 _ hini) rfl hd (by omega) (by omega) hKn.2.1 rfl fun H2 kC hkC e1 z1 o1 => ?_
  rw [← e0]
  refine (hC _ _ _ _ hc).2 lsr H2 locs (cells + 1) (slots + q.2.2) ⟨hR.1, hR.2.1, ok_c trivial ot, ⟨mok_new hok (by omega) (by decide), by show base + (M.1 + 1) = _; omega, hbb, fun x y1 y2 => ?_⟩, hR.2.2.2.2.1.kept (o1 b (by omega)), hR.2.2.2.2.2.1, by show cells + 1 + (Me.1 - (M.1 + 1)) = cE; have : M.1 + 1 ≤ Me.1 := hm.1; omega, by show slots + q.2.2 + (Me.2.1 - (M.2.1 + q.2.2)) = sE; have : M.2.1 + q.2.2 ≤ Me.2.1 := hm.2; omega⟩
  by_cases hx : x = M.1
  · subst hx
    have ek : upk M.2.2.1 M.1 (cc, 0) M.1 = (cc, 0) := if_pos rfl
    refine ⟨fun c2 h2 h3 => ?_, fun n2 h2 => ?_, fun n2 h2 => ?_, fun n2 h2 => ?_⟩
    · have h9 := ek.symm.trans h2
      injection h9 with h9 h10
      subst h9
      refine ⟨q, hq, ?_⟩
      have e2 : base + (M.1 - 1) = H.size := by have := hok.1; omega
      rw [e2]
      refine (u_born ty F.2.2.2.2.1 hin hKn hkC e1 hty).to (fun j hj => ?_)
      rw [hdf j hj]
      unfold mfv
      by_cases hf : ft cc j = 3
      · rw [if_pos hf, if_pos hf]; show _ = va_rf (Option.map _ (upz M.2.2.2.1 M.1 none M.1 j)); unfold upz; rw [if_pos rfl]; rfl
      · rw [if_neg hf, if_neg hf]; show _ = Value.int (Int32.ofInt (upz M.2.2.2.2 M.1 0 M.1 j)); unfold upz; rw [if_pos rfl]; rfl
    · have h9 := ek.symm.trans h2; injection h9; omega
    · have h9 := ek.symm.trans h2; injection h9; omega
    · have h9 := ek.symm.trans h2; injection h9; omega
  · exact (hcl x y1 (by have : x < M.1 + 1 := y2; omega)).kept (if_neg hx) (by funext j; exact if_neg hx) (by funext j; exact if_neg hx) (o1 _ (by omega))
theorem z_newarray {ty : ArrayType} (hE : cE ≤ RR.cells ∧ sE ≤ RR.slots) (F : mFix p s m args meth c D cI cZ cW base b k) (hC : SimC p l e RR s m args below meth c Q D cI cZ cW base b L xs k cE sE Me C) (hR : RS D cI cZ cW base b L xs s k cE sE Me ls st M lsr H locs cells slots) (hd : decode (mcode k) pc = .ok (.newarray ty, len)) (h : stepI call k (.newarray ty) len pc ls st M C) : W p l e RR s m args below meth c H locs cells slots Q (F0 m pc lsr (st.map (mrv base b))) := by
  obtain ⟨rfl, n, g, t, rfl, h0, h1, hg, hc⟩ := h
  obtain ⟨on, ot⟩ := ok_1 hR.2.2.1
  obtain ⟨hok, hsz, hbb, hcl⟩ := id hR.2.2.2.1
  have hs1 := hok.1
  have hm := (hC _ _ _ _ hc).1
  have hRc := hR.2.2.2.2.2.2.1
  have hRs := hR.2.2.2.2.2.2.2
  have e9 : base + (M.1 - 1) = H.size := by omega
  have e0 : mrv base b (vr M.1) = .ref H.size := by show Value.ref (mad base b M.1) = _; rw [mad_pos hok.1, e9]
  have mm1 : M.1 + 1 ≤ Me.1 := hm.1
  have mm2 : M.2.1 + n.toNat ≤ Me.2.1 := hm.2
  have e2 : base + (M.1 - 1) = H.size := by have := hok.1; omega
  rcases hg with ⟨rfl, rfl⟩ | ⟨rfl, rfl⟩
  · refine va_newaK (atype := .int) F.1 F.2.1 (F.2.2.2.2.1 _ tb_ai) rfl hd (n := Int32.ofInt n) rfl (oi_nn on h0) (oi_cl on) (by show n.toNat * 4 ≤ _; omega) (by omega) (by omega) rfl fun H2 cA e1 z1 o1 hAr hNm => ?_
    have hcA : cA = cI := Option.some.inj (hNm.symm.trans (F.2.2.2.2.2.1.2 0 _ rfl).2)
    subst hcA
    rw [← e0]
    refine (hC _ _ _ _ hc).2 lsr H2 locs (cells + 1) (slots + n.toNat) ⟨hR.1, hR.2.1, ok_c trivial ot, ⟨mok_new hok (by decide) (by omega), by show base + (M.1 + 1) = _; omega, hbb, fun x y1 y2 => ?_⟩, hR.2.2.2.2.1.kept (o1 b (by omega)), hR.2.2.2.2.2.1, by show cells + 1 + (Me.1 - (M.1 + 1)) = cE; have : M.1 + 1 ≤ Me.1 := hm.1; omega, by show slots + n.toNat + (Me.2.1 - (M.2.1 + n.toNat)) = sE; have : M.2.1 + n.toNat ≤ Me.2.1 := hm.2; omega⟩
    by_cases hx : x = M.1
    · subst hx
      have ek : upk M.2.2.1 M.1 (20, n.toNat) M.1 = (20, n.toNat) := if_pos rfl
      refine ⟨fun c2 h2 h3 => ?_, fun n2 h2 => ?_, fun n2 h2 => ?_, fun n2 h2 => ?_⟩
      · have h9 := ek.symm.trans h2; injection h9; omega
      · have h9 := ek.symm.trans h2
        injection h9 with h9 h10
        subst h10
        rw [e2, e1]
        congr 2
        funext j
        show _ = Value.int (Int32.ofInt (upz M.2.2.2.2 M.1 0 M.1 j))
        unfold upz
        rw [if_pos rfl]
        rfl
      · have h9 := ek.symm.trans h2; injection h9; omega
      · have h9 := ek.symm.trans h2; injection h9; omega
    · exact (hcl x y1 (by have : x < M.1 + 1 := y2; omega)).kept (if_neg hx) (by funext j; exact if_neg hx) (by funext j; exact if_neg hx) (o1 _ (by omega))
  · refine va_newaK (atype := .boolean) F.1 F.2.1 (F.2.2.2.2.1 _ tb_az) rfl hd (n := Int32.ofInt n) rfl (oi_nn on h0) (oi_cl on) (by show n.toNat * 1 ≤ _; omega) (by omega) (by omega) rfl fun H2 cA e1 z1 o1 hAr hNm => ?_
    have hcA : cA = cZ := Option.some.inj (hNm.symm.trans (F.2.2.2.2.2.1.2 1 _ rfl).2)
    subst hcA
    rw [← e0]
    refine (hC _ _ _ _ hc).2 lsr H2 locs (cells + 1) (slots + n.toNat) ⟨hR.1, hR.2.1, ok_c trivial ot, ⟨mok_new hok (by decide) (by omega), by show base + (M.1 + 1) = _; omega, hbb, fun x y1 y2 => ?_⟩, hR.2.2.2.2.1.kept (o1 b (by omega)), hR.2.2.2.2.2.1, by show cells + 1 + (Me.1 - (M.1 + 1)) = cE; have : M.1 + 1 ≤ Me.1 := hm.1; omega, by show slots + n.toNat + (Me.2.1 - (M.2.1 + n.toNat)) = sE; have : M.2.1 + n.toNat ≤ Me.2.1 := hm.2; omega⟩
    by_cases hx : x = M.1
    · subst hx
      have ek : upk M.2.2.1 M.1 (21, n.toNat) M.1 = (21, n.toNat) := if_pos rfl
      refine ⟨fun c2 h2 h3 => ?_, fun n2 h2 => ?_, fun n2 h2 => ?_, fun n2 h2 => ?_⟩
      · have h9 := ek.symm.trans h2; injection h9; omega
      · have h9 := ek.symm.trans h2; injection h9; omega
      · have h9 := ek.symm.trans h2
        injection h9 with h9 h10
        subst h10
        rw [e2, e1]
        congr 2
        funext j
        show _ = Value.int (Int32.ofInt (upz M.2.2.2.2 M.1 0 M.1 j))
        unfold upz
        rw [if_pos rfl]
        rfl
      · have h9 := ek.symm.trans h2; injection h9; omega
    · exact (hcl x y1 (by have : x < M.1 + 1 := y2; omega)).kept (if_neg hx) (by funext j; exact if_neg hx) (by funext j; exact if_neg hx) (o1 _ (by omega))
theorem z_anewarray {idx : Nat} (hE : cE ≤ RR.cells ∧ sE ≤ RR.slots) (F : mFix p s m args meth c D cI cZ cW base b k) (hC : SimC p l e RR s m args below meth c Q D cI cZ cW base b L xs k cE sE Me C) (hR : RS D cI cZ cW base b L xs s k cE sE Me ls st M lsr H locs cells slots) (hd : decode (mcode k) pc = .ok (.anewarray idx, len)) (h : stepI call k (.anewarray idx) len pc ls st M C) : W p l e RR s m args below meth c H locs cells slots Q (F0 m pc lsr (st.map (mrv base b))) := by
  obtain ⟨rfl, n, t, rfl, hp, h0, h1, hc⟩ := h
  obtain ⟨on, ot⟩ := ok_1 hR.2.2.1
  obtain ⟨hok, hsz, hbb, hcl⟩ := id hR.2.2.2.1
  obtain ⟨pos, hpp⟩ := tb_pool hp
  have hlk : Cond.classLink (cn (mcls k)) idx rk10 ∈ gtl := by
    replace hpp : (match cks[10]? with
      | some q => decide (3 = q.2.2) && decide (q.1 = cn 10) && tb_at pos (Cond.classLink (cn (mcls k)) idx q.1)
      | none => false) = true := hpp
    cases hq : cks[10]? with
    | none => rw [hq] at hpp; cases hpp
    | some q =>
      rw [hq] at hpp
      simp only [Bool.and_eq_true, decide_eq_true_eq] at hpp
      cases hq
      exact tb_in hpp.2
  have hs1 := hok.1
  have hm := (hC _ _ _ _ hc).1
  have hRc := hR.2.2.2.2.2.2.1
  have hRs := hR.2.2.2.2.2.2.2
  have e9 : base + (M.1 - 1) = H.size := by omega
  have e0 : mrv base b (vr M.1) = .ref H.size := by show Value.ref (mad base b M.1) = _; rw [mad_pos hok.1, e9]
  have mm1 : M.1 + 1 ≤ Me.1 := hm.1
  have mm2 : M.2.1 + n.toNat ≤ Me.2.1 := hm.2
  have e2 : base + (M.1 - 1) = H.size := by have := hok.1; omega
  obtain ⟨kB, cp, -, -, -, k4⟩ := (F.2.2.2.2.2.1.2 2 _ rfl).2
  refine W.anew F.1 F.2.1 F.2.2.2.1 (F.2.2.2.2.1 _ hlk) (va_AO.use F.2.2.2.2.2.2.2.2) rfl hd (n := Int32.ofInt n) rfl (oi_nn on h0) (by rw [oi_cl on]; omega) (by omega) (by rw [oi_cl on]; omega) fun cA kA comp f1 f2 f3 f4 => ?_
  have hcA : cA = cW := Option.some.inj (f1.symm.trans k4)
  subst hcA
  rw [oi_cl on]
  generalize hH2 : H.push ({ cls := cA, slots := Array.replicate n.toNat .null, vm := .none } : Cell) = H2
  have z1 : H2.size = H.size + 1 := by rw [← hH2, Array.size_push]
  have e1 : H2[H.size]? = some (arrV cA n.toNat (fun _ => .null)) := by rw [← hH2, Array.getElem?_push_size, ← arrV_new]
  have o1 : ∀ q : Nat, q < H.size → H2[q]? = H[q]? := fun q hq => by rw [← hH2, Array.getElem?_push, if_neg (Nat.ne_of_lt hq)]
  rw [← e0]
  refine (hC _ _ _ _ hc).2 lsr H2 locs (cells + 1) (slots + n.toNat) ⟨hR.1, hR.2.1, ok_c trivial ot, ⟨mok_new hok (by decide) (by omega), by show base + (M.1 + 1) = _; omega, hbb, fun x y1 y2 => ?_⟩, hR.2.2.2.2.1.kept (o1 b (by omega)), hR.2.2.2.2.2.1, by show cells + 1 + (Me.1 - (M.1 + 1)) = cE; have : M.1 + 1 ≤ Me.1 := hm.1; omega, by show slots + n.toNat + (Me.2.1 - (M.2.1 + n.toNat)) = sE; have : M.2.1 + n.toNat ≤ Me.2.1 := hm.2; omega⟩
  by_cases hx : x = M.1
  · subst hx
    have ek : upk M.2.2.1 M.1 (22, n.toNat) M.1 = (22, n.toNat) := if_pos rfl
    refine ⟨fun c2 h2 h3 => ?_, fun n2 h2 => ?_, fun n2 h2 => ?_, fun n2 h2 => ?_⟩
    · have h9 := ek.symm.trans h2; injection h9; omega
    · have h9 := ek.symm.trans h2; injection h9; omega
    · have h9 := ek.symm.trans h2; injection h9; omega
    · have h9 := ek.symm.trans h2
      injection h9 with h9 h10
      subst h10
      rw [e2, e1]
      congr 2
      funext j
      show _ = va_rf (Option.map _ (upz M.2.2.2.1 M.1 none M.1 j))
      unfold upz
      rw [if_pos rfl]
      rfl
  · exact (hcl x y1 (by have : x < M.1 + 1 := y2; omega)).kept (if_neg hx) (by funext j; exact if_neg hx) (by funext j; exact if_neg hx) (o1 _ (by omega))
end SIME
end
section
theorem wd_cat {base b : Nat} (v : MV) : (mrv base b v).category = wd v := by
  match v with
  | Sum.inl x => rfl
  | Sum.inr (Sum.inl x) => rfl
  | Sum.inr (Sum.inr none) => rfl
  | Sum.inr (Sum.inr (some a)) => rfl
theorem wds_cat {base b : Nat} (t : List MV) : ((t.map (mrv base b)).map fun v => v.category).sum = wds t := by
  unfold wds
  rw [List.map_map]
  congr 1
  exact List.map_congr_left fun v _ => wd_cat v
theorem va_X_heap {b L : Nat} {xs : Nat → Int32} {U : State} {H : Heap} (h : va_X b L xs U H) {V : State} (hvm : U.vm.Alike V.vm) : va_X b L xs V H := va_X.moved hvm h
theorem mPc_blind {D : va_G} {cI cZ cW : ClassId} {base b L : Nat} {xs : Nat → Int32} {M : MM} {av : List Value} : FrameBlind (va_Pc av (mPic D cI cZ cW base b L xs M)) := by
  intro a U g mk q
  obtain ⟨q0, q1, q2, q3, q4⟩ := q
  exact ⟨q0, q1, va_K.moved (u := U) (U := U.calling g mk a) (Vm.Alike.refl U.vm) q2, va_X.moved (u := U) (U := U.calling g mk a) (Vm.Alike.refl U.vm) q3, va_AO.moved (u := U) (U := U.calling g mk a) (Vm.Alike.refl U.vm) q4⟩
theorem gtl_good {w : Cond} (h : w ∈ gtl) : goodWord w = true := (List.mem_filter.mp h).2
/-- what the tables say of a method -/
theorem tb_met {y : Nat} (h : y < nMet) : (mname y).cls = cn (mcls y) ∧ plainName (mname y).cls = true ∧ Cond.initialized (mname y).cls ∈ gtl ∧ (mstat y = true → Cond.static (mname y) ∈ gtl) ∧ (mstat y = false → Cond.instanceMethod (mname y) ∈ gtl) ∧ (mstat y = false → ((mname y).name == "<init>") = false → Cond.selects (mname y).cls (mname y) (mname y) ∈ gtl) ∧ (mname y).cls ≠ "java/lang/invoke/MethodHandle" ∧ (mname y).cls ≠ "java/lang/invoke/VarHandle" ∧ mmaxl y ≤ 20 ∧ (((mname y).name == "<init>") = true → mret y = none) ∧ (mstat y = false → mcls y < 13) := by
  have h0 := chkM_k h
  unfold chkM at h0
  dsimp only at h0
  simp only [Bool.and_eq_true, decide_eq_true_eq] at h0
  obtain ⟨⟨⟨⟨⟨⟨⟨⟨⟨h1, h2⟩, h3⟩, h4⟩, h5⟩, h6⟩, h7⟩, h8⟩, h9⟩, h10⟩ := h0
  refine ⟨h1, h2, tb_in h3, fun e => ?_, fun e => ?_, fun e e2 => ?_, h6, h7, h8, fun e => ?_, fun e => ?_⟩
  · have e1 : (mro y).2.2.2.2.2.1 = true := e
    rw [e1] at h4
    exact tb_in h4
  · have e1 : (mro y).2.2.2.2.2.1 = false := e
    rw [e1] at h4
    exact tb_in h4
  · have e1 : (mro y).2.2.2.2.2.1 = false := e
    have e3 : ((mro y).1.name == "<init>") = false := e2
    rw [e1, e3] at h5
    exact tb_in h5
  · have e3 : ((mro y).1.name == "<init>") = true := e
    rw [if_pos e3] at h9
    exact of_decide_eq_true h9
  · have e1 : (mro y).2.2.2.2.2.1 = false := e
    rw [e1] at h10
    have h11 : (mro y).2.2.2.2.1 < 13 := by simpa using h10
    exact h11
theorem mws_good {y : Nat} (h : y < nMet) : GoodIn gtl (mws y) := by
  have hc : Cond.code (mname y) (mcode y) (mmaxl y) (mret y) ∈ gtl := gtl_of (code_k h) rfl
  intro w hw
  have h1 : w ∈ gtl := by
    rcases List.mem_cons.mp hw with q | q
    · rw [q]; exact hc
    · exact q
  exact ⟨h1, good_of_word (gtl_good h1)⟩
theorem z_goes {p : Program} {l : Launch} {e : Env} {RR : Room} {s : State} {m : MethodId} {args : Array Value} {below : List Frame} {meth : Method} {c : Code} {Q : State → Prop} {H : Heap} {locs : List Loc} {cells slots mc ms pc : Nat} {lsr : Array Slot} {st0 rest : List Value} {Qa : State → Outcome → State → Prop} {free : Addr → Prop}
    (hr : va_Run p l e RR s m args below meth c H locs cells slots mc ms (F0 m pc lsr st0) rest Qa free)
    (kk : ∀ (v : Option Value) (st1 t : State) (H2 : Heap) (L2 : List Loc), t.heap = H2 → s.vm.Alike t.vm → Qa st1 (.returned v) t → (∀ q ∈ L2, free q.base) → W p l e RR s m args below meth c H2 (locs ++ L2) (cells + mc) (slots + ms) Q (F0 m (pc + 3) lsr (v.toList ++ rest))) : W p l e RR s m args below meth c H locs cells slots Q (F0 m pc lsr st0) := by
  intro T hT X
  obtain ⟨v, st₀, t, T', L2, h0, X', hL, e1, e2, hq, go⟩ := hr T hT X
  obtain ⟨t2, a1, b1⟩ := kk v st₀ t T'.heap L2 e1.symm (by rw [← e2]; exact X'.warmed.alike) hq hL T' rfl X'
  exact ⟨t2, go t2 a1, b1⟩
theorem toL {base b : Nat} (r : Option MV) (t : List MV) : (r.map (mrv base b)).toList ++ t.map (mrv base b) = (r.toList ++ t).map (mrv base b) := by
  cases r <;> rfl
section SIMF
variable {p : Program} {l : Launch} {e : Env} {RR : Room} {s : State} {m : MethodId} {args : Array Value} {below : List Frame} {meth : Method} {c : Code} {Q : State → Prop} {D : va_G} {cI cZ cW : ClassId} {base b L : Nat} {xs : Nat → Int32} {k cE sE d : Nat} {Me : MM} {C : Nx} {call : Cl}
variable {ls st : List MV} {M : MM} {lsr : Array Slot} {H : Heap} {locs : List Loc} {cells slots pc len : Nat}
theorem z_copy {idx : Nat} {n dp sp : Int} {b2 a g na nb : Nat} {t : List MV} (hRm : d + 1 ≤ RR.frames ∧ 60 * (d + 1) ≤ RR.locals) (F : mFix p s m args meth c D cI cZ cW base b k) (hC : SimC p l e RR s m args below meth c Q D cI cZ cW base b L xs k cE sE Me C) (hR : RS D cI cZ cW base b L xs s k cE sE Me ls (vi n :: vi dp :: vr b2 :: vi sp :: vr a :: t) M lsr H locs cells slots) (hd : decode (mcode k) pc = .ok (.invokestatic idx, 3))
    (hp : pool (mcls k) idx = some (6, 0, 0)) (hw : wds t ≤ 8) (ha : M.2.2.1 a = (g, na)) (hb2 : M.2.2.1 b2 = (g, nb)) (hg : g = 20 ∨ g = 21) (h0 : 0 ≤ n) (h1 : 0 ≤ dp) (h2 : 0 ≤ sp) (h3 : sp + n ≤ (na : Int)) (h4 : dp + n ≤ (nb : Int))
    (hc : C (pc + 3) ls t (M.1, M.2.1, M.2.2.1, M.2.2.2.1, cpI M.2.2.2.2 a b2 sp.toNat dp.toNat n.toNat)) : W p l e RR s m args below meth c H locs cells slots Q (F0 m pc lsr ((vi n :: vi dp :: vr b2 :: vi sp :: vr a :: t).map (mrv base b))) := by
  obtain ⟨on, odp, ot1⟩ := ok_2 hR.2.2.1
  obtain ⟨-, osp, ot2⟩ := ok_2 ot1
  obtain ⟨-, ot⟩ := ok_1 ot2
  replace on : inI n := on
  replace odp : inI dp := odp
  replace osp : inI sp := osp
  obtain ⟨pos, hpp⟩ := tb_pool hp
  obtain ⟨hok, hsz, hbb, hcl⟩ := id hR.2.2.2.1
  obtain ⟨a1, a2⟩ := mok_lt hok ha (by omega) (by omega)
  obtain ⟨b1, b3⟩ := mok_lt hok hb2 (by omega) (by omega)
  have e0 : mrv base b (vr a) = .ref (base + (a - 1)) := by show Value.ref (mad base b a) = _; rw [mad_pos a1]
  have e1 : mrv base b (vr b2) = .ref (base + (b2 - 1)) := by show Value.ref (mad base b b2) = _; rw [mad_pos b1]
  have hcells : ∃ (cA : ClassId) (ty : FieldType), refKind ty = false ∧ ArrOfT s cA ty ∧ H[base + (a - 1)]? = some (arrV cA na (fun j => .int (Int32.ofInt (M.2.2.2.2 a j)))) ∧ H[base + (b2 - 1)]? = some (arrV cA nb (fun j => .int (Int32.ofInt (M.2.2.2.2 b2 j)))) ∧ (∀ j, fits ty (.int (Int32.ofInt (M.2.2.2.2 a j))) = true) ∧
      ∀ (H2 : Heap) (I2 : Nat → Nat → Int), H2[base + (b2 - 1)]? = some (arrV cA nb (fun j => .int (Int32.ofInt (I2 b2 j)))) → mcell D cI cZ cW base b M.2.2.1 M.2.2.2.1 I2 b2 H2 := by
    rcases hg with rfl | rfl
    · refine ⟨cI, .int, rfl, (F.2.2.2.2.2.1.2 0 _ rfl).1, (hcl a a1 a2).2.1 _ ha, (hcl b2 b1 b3).2.1 _ hb2, fun j => rfl, fun H2 I2 h5 => ⟨fun c2 h6 => ?_, fun n2 h6 => ?_, fun n2 h6 => ?_, fun n2 h6 => ?_⟩⟩
      · have h9 := hb2.symm.trans h6; injection h9; omega
      · have h9 := hb2.symm.trans h6; injection h9 with h9 h10; subst h10; exact h5
      · have h9 := hb2.symm.trans h6; injection h9; omega
      · have h9 := hb2.symm.trans h6; injection h9; omega
    · refine ⟨cZ, .boolean, rfl, (F.2.2.2.2.2.1.2 1 _ rfl).1, (hcl a a1 a2).2.2.1 _ ha, (hcl b2 b1 b3).2.2.1 _ hb2, fun j => ?_, fun H2 I2 h5 => ⟨fun c2 h6 => ?_, fun n2 h6 => ?_, fun n2 h6 => ?_, fun n2 h6 => ?_⟩⟩
      · rcases hok.2.2.2.2.1 a na j ha with h9 | h9 <;> rw [h9] <;> rfl
      · have h9 := hb2.symm.trans h6; injection h9; omega
      · have h9 := hb2.symm.trans h6; injection h9; omega
      · have h9 := hb2.symm.trans h6; injection h9 with h9 h10; subst h10; exact h5
      · have h9 := hb2.symm.trans h6; injection h9; omega
  obtain ⟨cA, ty, hprim, hArr, hc0, hc1, hfit, hnew⟩ := hcells
  have cn2 := oi_cl on
  have cd2 := oi_cl odp
  have cs2 := oi_cl osp
  have tn := oi_to on
  have td := oi_to odp
  have ts := oi_to osp
  have nfr := nfw
  intro T hT X
  obtain ⟨-, k0, hk0, cm0, hkk0⟩ := hArr na (fun j => .int (Int32.ofInt (M.2.2.2.2 a j)))
  obtain ⟨-, k1, hk1, cm1, hkk1⟩ := hArr nb (fun j => .int (Int32.ofInt (M.2.2.2.2 b2 j)))
  rw [List.map_cons, List.map_cons, List.map_cons, List.map_cons, List.map_cons, e0, e1]
  obtain ⟨vm', X', step⟩ := X.arraycopy F.1 F.2.2.2.1 (F.2.2.2.2.1 _ (tb_in (i := pos) hpp)) (F.2.2.2.2.1 _ tb_nat) (F.2.2.2.2.1 _ tb_acs) (F.2.2.2.2.1 _ tb_sys) (src := base + (a - 1)) (dst := base + (b2 - 1)) (cs := arrV cA na (fun j => .int (Int32.ofInt (M.2.2.2.2 a j)))) (cd := arrV cA nb (fun j => .int (Int32.ofInt (M.2.2.2.2 b2 j)))) (srcPos := Int32.ofInt sp) (destPos := Int32.ofInt dp) (n := Int32.ofInt n) (by rw [hT]; exact hc0) (by rw [hT]; exact hc1)
    (fun _ h => by cases h) (fun _ h => by cases h) (fun h => by cases h) (fun h => by cases h) hk0 hk1 hkk0 hkk1 (by simp [hprim]) (oi_nn osp h2) (oi_nn odp h1) (oi_nn on h0)
    (by rw [ts, tn, arrV_size]; omega)
    (by rw [td, tn, arrV_size]; omega)
    (fun vm₁ _ i hi => by
      rw [cn2] at hi
      rw [cs2]
      have e : (arrV cA na (fun j => Value.int (Int32.ofInt (M.2.2.2.2 a j)))).slots.getD (sp.toNat + i) .null = .int (Int32.ofInt (M.2.2.2.2 a (sp.toNat + i))) := by
        rw [Array.getD_eq_getD_getElem?, arrV_read _ _ (by omega)]
        rfl
      refine ⟨?_, ?_⟩
      · rw [e]
        exact hfit _
      · rw [e]
        exact trivial)
    (g := F0 m pc lsr (.int (Int32.ofInt n) :: .int (Int32.ofInt dp) :: .ref (base + (b2 - 1)) :: .int (Int32.ofInt sp) :: .ref (base + (a - 1)) :: t.map (mrv base b))) rfl (by rw [F.2.2.1]; exact hR.1.1) (rest := t.map (mrv base b)) rfl (by rw [F.2.1]; exact hd) (by omega) (by rw [wds_cat]; show 2 * 0 + _ + _ ≤ _; omega)
  have ec : copied (arrV cA na (fun j => Value.int (Int32.ofInt (M.2.2.2.2 a j)))) (arrV cA nb (fun j => Value.int (Int32.ofInt (M.2.2.2.2 b2 j)))) (Int32.ofInt sp) (Int32.ofInt dp) (Int32.ofInt n) = arrV cA nb (fun j => .int (Int32.ofInt (cpI M.2.2.2.2 a b2 sp.toNat dp.toNat n.toNat b2 j))) := by
    have h9 := va_copied (fun z => Value.int z) cA cA (n1 := nb) (dp := dp.toNat) (fun j => Int32.ofInt (M.2.2.2.2 a j)) (fun j => Int32.ofInt (M.2.2.2.2 b2 j)) (show sp.toNat + n.toNat ≤ na by omega)
    unfold copied
    rw [cn2, cd2, cs2, h9]
    congr 1
    funext j
    unfold va_cpy cpI
    by_cases q : dp.toNat ≤ j ∧ j < dp.toNat + n.toNat
    · rw [if_pos q, if_pos ⟨rfl, q⟩]
    · rw [if_neg q, if_neg (fun z => q z.2)]
  rw [ec] at X' step
  have hl : base + (b2 - 1) < H.size := (Array.getElem?_eq_some_iff.mp hc1).1
  generalize hcell : arrV cA nb (fun j => .int (Int32.ofInt (cpI M.2.2.2.2 a b2 sp.toNat dp.toNat n.toNat b2 j))) = cell at X' step
  have hheap : ((T.setVm vm').setCell (base + (b2 - 1)) cell).heap = H.setIfInBounds (base + (b2 - 1)) cell := by rw [← hT]; rfl
  have oq : ∀ q : Nat, q ≠ base + (b2 - 1) → (H.setIfInBounds (base + (b2 - 1)) cell)[q]? = H[q]? := fun q hq => by simp [Array.getElem?_setIfInBounds, Ne.symm hq]
  have hmo : mok L xs M.1 M.2.2.1 (cpI M.2.2.2.2 a b2 sp.toNat dp.toNat n.toNat) := by
    obtain ⟨g1, g2, g3, g4, g5, g6, g7, g8⟩ := hok
    refine ⟨g1, g2, g3, fun x i => ?_, fun x n2 i hx => ?_, fun i hi => ?_, g7, g8⟩
    · unfold cpI; split
      · exact g4 _ _
      · exact g4 _ _
    · unfold cpI; split
      · rename_i q
        have h9 := hb2.symm.trans (q.1 ▸ hx)
        injection h9 with h9 h10
        exact g5 a na _ (by rw [ha, h9])
      · exact g5 x n2 i hx
    · unfold cpI; rw [if_neg (by omega)]; exact g6 i hi
  have hrs : ∀ L2 : List Loc, (∀ q ∈ L2, q.base = base + (b2 - 1)) → RS D cI cZ cW base b L xs s k cE sE Me ls t (M.1, M.2.1, M.2.2.1, M.2.2.2.1, cpI M.2.2.2.2 a b2 sp.toNat dp.toNat n.toNat) lsr (H.setIfInBounds (base + (b2 - 1)) cell) (locs ++ L2) cells slots := by
    intro L2 hL2
    refine ⟨hR.1, hR.2.1, ot, mHR_put hR.2.2.2.1 b1 rfl rfl (fun _ _ => rfl) (fun x hx => by funext i; exact if_neg (fun q => hx q.1)) hmo (by simp) oq (hnew _ _ (by rw [hcell]; simp [Array.getElem?_setIfInBounds, hl])), hR.2.2.2.2.1.kept (oq b (by omega)), fun q hq => ?_, hR.2.2.2.2.2.2.1, hR.2.2.2.2.2.2.2⟩
    rcases List.mem_append.mp hq with h9 | h9
    · exact hR.2.2.2.2.2.1 q h9
    · rw [hL2 q h9]
      exact Nat.le_add_right _ _
  obtain ⟨t2, y1, y2⟩ := (hC _ _ _ _ hc).2 lsr _ _ cells slots (hrs _ (fun q hq => by
    obtain ⟨z, -, hz⟩ := List.mem_map.mp hq
    rw [← hz])) _ hheap X'
  exact ⟨t2, step t2 y1, y2⟩
theorem z_invokevirtual {idx : Nat} (hE : cE ≤ RR.cells ∧ sE ≤ RR.slots) (hRm : d + 1 ≤ RR.frames ∧ 60 * (d + 1) ≤ RR.locals) (IH : ∀ y a M r M1, call y a M r M1 → y < nMet → (M.1 ≤ M1.1 ∧ M.2.1 ≤ M1.2.1) ∧ mMet d y a M r M1) (F : mFix p s m args meth c D cI cZ cW base b k) (hC : SimC p l e RR s m args below meth c Q D cI cZ cW base b L xs k cE sE Me C) (hR : RS D cI cZ cW base b L xs s k cE sE Me ls st M lsr H locs cells slots) (hd : decode (mcode k) pc = .ok (.invokevirtual idx, len)) (h : stepI call k (.invokevirtual idx) len pc ls st M C) : W p l e RR s m args below meth c H locs cells slots Q (F0 m pc lsr (st.map (mrv base b))) := by
  obtain ⟨rfl, y, n, as, a, t, r, M1, hp, rfl, has, ha, hst, hni, hw, hcall, hc⟩ := h
  have oas : ∀ v ∈ as, vok v := fun v hv => hR.2.2.1 v (List.mem_append_left _ (List.mem_reverse.mpr hv))
  have ot : ∀ v ∈ t, vok v := fun v hv => hR.2.2.1 v (List.mem_append_right _ (List.mem_cons_of_mem _ hv))
  obtain ⟨pos, hpp⟩ := tb_pool hp
  replace hpp : (decide (y < nMet) && tb_at pos (Cond.methodLink (cn (mcls k)) idx (mname y)) && decide (nPar (mname y).desc = some n)) = true := hpp
  simp only [Bool.and_eq_true, decide_eq_true_eq] at hpp
  obtain ⟨⟨hy, hlk⟩, hnp⟩ := hpp
  obtain ⟨t1, t2, t3, t4, t5, t6, t7, t8, t9, t10, t11⟩ := tb_met hy
  obtain ⟨hmo, hMet⟩ := IH y _ M r M1 hcall hy
  have hm := (hC _ _ _ _ hc).1
  have cb := callB_of (R := RR) (own := cn (mcls k)) (index := idx) (rm := mrm d (M1.1 - M.1) (M1.2.1 - M.2.1)) n F.2.2.2.2.1 (mws_good hy) rfl rfl rfl (F.2.2.2.2.1 _ t3) (F.2.2.2.2.1 _ (tb_in hlk)) ⟨t7, t8, hnp⟩ ⟨hRm.1, by show 8 + (mmaxl y + 11) + 60 * d ≤ _; omega⟩
  have hroom : cells + (M1.1 - M.1) ≤ RR.cells ∧ slots + (M1.2.1 - M.2.1) ≤ RR.slots := by
    have q1 := hR.2.2.2.2.2.2.1
    have q2 := hR.2.2.2.2.2.2.2
    omega
  obtain ⟨hok, hsz, hbb, hcl⟩ := id hR.2.2.2.1
  have hcy : mcls y < cks.length := t11 hst
  obtain ⟨q, hq⟩ : ∃ q : vw_C, cks[mcls y]? = some q := ⟨_, List.getElem?_eq_getElem hcy⟩
  have hcc : mcls y < 13 := (List.getElem?_eq_some_iff.mp hq).1
  obtain ⟨a1, a2⟩ := mok_lt hok ha (by omega) (by omega)
  obtain ⟨r0, hr0, cell, q1, q2, q3, q4⟩ := (hcl a a1 a2).1 _ ha hcc
  have hfc := (F.2.2.2.2.2.1.1 _ q hq).2.1
  obtain ⟨-, -, -, -, hcn, -⟩ := tb_cls hq
  have e0 : mrv base b (vr a) = .ref (base + (a - 1)) := by show Value.ref (mad base b a) = _; rw [mad_pos a1]
  have hM := hMet l D cI cZ cW base b L xs (ok_c trivial oas)
  rw [List.map_cons, e0] at hM
  have key : ∀ (v : Option Value) (st1 u : State) (H2 : Heap) (L2 : List Loc), u.heap = H2 → s.vm.Alike u.vm → mQc D cI cZ cW base b L xs r M1 (Value.ref (base + (a - 1)) :: as.map (mrv base b)).toArray st1 (.returned v) u → (∀ q ∈ L2, base ≤ q.base) → W p l e RR s m args below meth c H2 (locs ++ L2) (cells + (M1.1 - M.1)) (slots + (M1.2.1 - M.2.1)) Q (F0 m (pc + 3) lsr (v.toList ++ t.map (mrv base b))) := by
    intro v st1 u H2 L2 h1 h2 h3 h4
    obtain ⟨h5, ⟨h6, h7, h8, h9⟩, h10⟩ := h3
    injection h5 with h5
    rw [h5, toL]
    rw [h1] at h6 h8
    have hm := (hC _ _ _ _ hc).1
    refine (hC _ _ _ _ hc).2 lsr H2 _ _ _ ⟨hR.1, hR.2.1, fun v hv => ?_, h6, va_X.moved h2.symm h8, fun q hq => ?_, ?_, ?_⟩
    · rcases List.mem_append.mp hv with g | g
      · exact h10 v (by cases r with
          | none => cases g
          | some x => rw [List.mem_singleton.mp g])
      · exact ot v g
    · rcases List.mem_append.mp hq with g | g
      · exact hR.2.2.2.2.2.1 q g
      · exact h4 q g
    · have := hR.2.2.2.2.2.2.1; omega
    · have := hR.2.2.2.2.2.2.2; omega
  rw [List.map_append, List.map_cons, e0, List.map_reverse]
  exact z_goes (va_runV (C := (mname y).cls) (As := as.map (mrv base b)) (rest := t.map (mrv base b)) ⟨F.1, F.2.1, F.2.2.1, F.2.2.2.1, F.2.2.2.2.1⟩ hM ⟨cb, F.2.2.2.2.1 _ (t5 hst), F.2.2.2.2.1 _ (t6 hst hni)⟩ ⟨mPc_blind, ⟨cell, q1, by rw [q3]; rfl, by rw [q2, t1, ← hcn]; exact hfc⟩, fun U hU hW => ⟨rfl, by rw [hU]; exact hR.2.2.2.1, va_K.moved hW.alike F.2.2.2.2.2.1, by rw [hU]; exact va_X.moved hW.alike hR.2.2.2.2.1, va_AO.moved hW.alike F.2.2.2.2.2.2.2.2⟩⟩ rfl (by rw [List.length_map]; exact has) hR.1.1 rfl (lv_room (by rw [wds_cat]; exact hw)) hd hroom) key
theorem z_invokestatic {idx : Nat} (hE : cE ≤ RR.cells ∧ sE ≤ RR.slots) (hRm : d + 1 ≤ RR.frames ∧ 60 * (d + 1) ≤ RR.locals) (IH : ∀ y a M r M1, call y a M r M1 → y < nMet → (M.1 ≤ M1.1 ∧ M.2.1 ≤ M1.2.1) ∧ mMet d y a M r M1) (F : mFix p s m args meth c D cI cZ cW base b k) (hC : SimC p l e RR s m args below meth c Q D cI cZ cW base b L xs k cE sE Me C) (hR : RS D cI cZ cW base b L xs s k cE sE Me ls st M lsr H locs cells slots) (hd : decode (mcode k) pc = .ok (.invokestatic idx, len)) (h : stepI call k (.invokestatic idx) len pc ls st M C) : W p l e RR s m args below meth c H locs cells slots Q (F0 m pc lsr (st.map (mrv base b))) := by
  obtain ⟨rfl, h | h | h | h | h | h⟩ := h
  · obtain ⟨y, n, as, t, r, M1, hp, rfl, has, hst, hw, hcall, hc⟩ := h
    have oas : ∀ v ∈ as, vok v := fun v hv => hR.2.2.1 v (List.mem_append_left _ (List.mem_reverse.mpr hv))
    have ot : ∀ v ∈ t, vok v := fun v hv => hR.2.2.1 v (List.mem_append_right _ hv)
    obtain ⟨pos, hpp⟩ := tb_pool hp
    replace hpp : (decide (y < nMet) && tb_at pos (Cond.methodLink (cn (mcls k)) idx (mname y)) && decide (nPar (mname y).desc = some n)) = true := hpp
    simp only [Bool.and_eq_true, decide_eq_true_eq] at hpp
    obtain ⟨⟨hy, hlk⟩, hnp⟩ := hpp
    obtain ⟨t1, t2, t3, t4, t5, t6, t7, t8, t9, t10, t11⟩ := tb_met hy
    obtain ⟨hmo, hMet⟩ := IH y _ M r M1 hcall hy
    have hm := (hC _ _ _ _ hc).1
    have cb := callB_of (R := RR) (own := cn (mcls k)) (index := idx) (rm := mrm d (M1.1 - M.1) (M1.2.1 - M.2.1)) n F.2.2.2.2.1 (mws_good hy) rfl rfl rfl (F.2.2.2.2.1 _ t3) (F.2.2.2.2.1 _ (tb_in hlk)) ⟨t7, t8, hnp⟩ ⟨hRm.1, by show 8 + (mmaxl y + 11) + 60 * d ≤ _; omega⟩
    have hroom : cells + (M1.1 - M.1) ≤ RR.cells ∧ slots + (M1.2.1 - M.2.1) ≤ RR.slots := by
      have q1 := hR.2.2.2.2.2.2.1
      have q2 := hR.2.2.2.2.2.2.2
      omega
    have hM := hMet l D cI cZ cW base b L xs oas
    have key : ∀ (v : Option Value) (st1 u : State) (H2 : Heap) (L2 : List Loc), u.heap = H2 → s.vm.Alike u.vm → mQc D cI cZ cW base b L xs r M1 (as.map (mrv base b)).toArray st1 (.returned v) u → (∀ q ∈ L2, base ≤ q.base) → W p l e RR s m args below meth c H2 (locs ++ L2) (cells + (M1.1 - M.1)) (slots + (M1.2.1 - M.2.1)) Q (F0 m (pc + 3) lsr (v.toList ++ t.map (mrv base b))) := by
      intro v st1 u H2 L2 h1 h2 h3 h4
      obtain ⟨h5, ⟨h6, h7, h8, h9⟩, h10⟩ := h3
      injection h5 with h5
      rw [h5, toL]
      rw [h1] at h6 h8
      have hm := (hC _ _ _ _ hc).1
      refine (hC _ _ _ _ hc).2 lsr H2 _ _ _ ⟨hR.1, hR.2.1, fun v hv => ?_, h6, va_X.moved h2.symm h8, fun q hq => ?_, ?_, ?_⟩
      · rcases List.mem_append.mp hv with g | g
        · exact h10 v (by cases r with
            | none => cases g
            | some x => rw [List.mem_singleton.mp g])
        · exact ot v g
      · rcases List.mem_append.mp hq with g | g
        · exact hR.2.2.2.2.2.1 q g
        · exact h4 q g
      · have := hR.2.2.2.2.2.2.1; omega
      · have := hR.2.2.2.2.2.2.2; omega
    rw [List.map_append, List.map_reverse]
    exact z_goes (va_runS (As := as.map (mrv base b)) (rest := t.map (mrv base b)) ⟨F.1, F.2.1, F.2.2.1, F.2.2.2.1, F.2.2.2.2.1⟩ hM ⟨cb, F.2.2.2.2.1 _ (t4 hst)⟩ ⟨mPc_blind, fun U hU hW => ⟨rfl, by rw [hU]; exact hR.2.2.2.1, va_K.moved hW.alike F.2.2.2.2.2.1, by rw [hU]; exact va_X.moved hW.alike hR.2.2.2.2.1, va_AO.moved hW.alike F.2.2.2.2.2.2.2.2⟩⟩ rfl (by rw [List.length_map]; exact has) hR.1.1 rfl (lv_room (by rw [wds_cat]; exact hw)) hd hroom) key
  · obtain ⟨n, dp, b2, sp, a, g, na, nb, t, hp, rfl, hw, ha, hb2, hg, h0, h1, h2, h3, h4, hc⟩ := h
    exact z_copy hRm F hC hR hd hp hw ha hb2 hg h0 h1 h2 h3 h4 hc
  · obtain ⟨x, y, t, hp, rfl, hw, hc⟩ := h
    obtain ⟨oy, ox, ot⟩ := ok_2 hR.2.2.1
    obtain ⟨pos, hpp⟩ := tb_pool hp
    have hx := (hC _ _ _ _ hc).2 lsr H locs cells slots (hR.sk (ok_c (y := vi (mxI x y)) (by show inI (mxI x y); unfold mxI; split; exact oy; exact ox) ot))
    have q1 := hR.2.2.2.2.2.2.1
    have q2 := hR.2.2.2.2.2.2.2
    refine va_mmax (x := Int32.ofInt x) (y := Int32.ofInt y) (rest := t.map (mrv base b)) F.1 F.2.1 (by rw [F.2.2.1]; exact hR.1.1.symm) F.2.2.2.1 (F.2.2.2.2.1 _ (tb_in (i := pos) hpp)) (F.2.2.2.2.1 _ tb_mmax) (F.2.2.2.2.1 _ tb_mi) (F.2.2.2.2.1 _ tb_mmaxc) (by omega) (by rw [wds_cat]; omega) (by omega) (by omega) hd ?_
    have e1 : (if Int32.ofInt x < Int32.ofInt y then Int32.ofInt y else Int32.ofInt x) = Int32.ofInt (mxI x y) := by
      unfold mxI
      by_cases q : x < y
      · rw [if_pos ((oi_lt ox oy).mpr q), if_pos q]
      · rw [if_neg (fun z => q ((oi_lt ox oy).mp z)), if_neg q]
    rw [e1]
    exact hx
  · obtain ⟨x, y, t, hp, rfl, hw, hc⟩ := h
    obtain ⟨oy, ox, ot⟩ := ok_2 hR.2.2.1
    obtain ⟨pos, hpp⟩ := tb_pool hp
    have hx := (hC _ _ _ _ hc).2 lsr H locs cells slots (hR.sk (ok_c (y := vi (mnI x y)) (by show inI (mnI x y); unfold mnI; split; exact oy; exact ox) ot))
    have q1 := hR.2.2.2.2.2.2.1
    have q2 := hR.2.2.2.2.2.2.2
    refine va_mmin (x := Int32.ofInt x) (y := Int32.ofInt y) (rest := t.map (mrv base b)) F.1 F.2.1 (by rw [F.2.2.1]; exact hR.1.1.symm) F.2.2.2.1 (F.2.2.2.2.1 _ (tb_in (i := pos) hpp)) (F.2.2.2.2.1 _ tb_mmin) (F.2.2.2.2.1 _ tb_mi) (F.2.2.2.2.1 _ tb_mminc) (by omega) (by rw [wds_cat]; omega) (by omega) (by omega) hd ?_
    have e1 : (if Int32.ofInt y < Int32.ofInt x then Int32.ofInt y else Int32.ofInt x) = Int32.ofInt (mnI x y) := by
      unfold mnI
      by_cases q : y < x
      · rw [if_pos ((oi_lt oy ox).mpr q), if_pos q]
      · rw [if_neg (fun z => q ((oi_lt oy ox).mp z)), if_neg q]
    rw [e1]
    exact hx
  · obtain ⟨x, t, hp, rfl, hw, hc⟩ := h
    obtain ⟨ox, ot⟩ := ok_1 hR.2.2.1
    obtain ⟨pos, hpp⟩ := tb_pool hp
    have hx := (hC _ _ _ _ hc).2 lsr H locs cells slots (hR.sk (ok_c (y := vi (abI x)) (by show inI (abI x); unfold abI; split; exact ox; exact wI_in _) ot))
    have q1 := hR.2.2.2.2.2.2.1
    have q2 := hR.2.2.2.2.2.2.2
    refine va_mabs (x := Int32.ofInt x) (rest := t.map (mrv base b)) F.1 F.2.1 (by rw [F.2.2.1]; exact hR.1.1.symm) F.2.2.2.1 (F.2.2.2.2.1 _ (tb_in (i := pos) hpp)) (F.2.2.2.2.1 _ tb_mabs) (F.2.2.2.2.1 _ tb_mi) (F.2.2.2.2.1 _ tb_mabsc) (by omega) (by rw [wds_cat]; omega) (by omega) (by omega) hd ?_
    have e1 : (if 0 ≤ Int32.ofInt x then Int32.ofInt x else 0 - Int32.ofInt x) = Int32.ofInt (abI x) := by
      unfold abI
      rw [← oi_0, oi_sub]
      by_cases q : 0 ≤ x
      · rw [if_pos ((oi_le ⟨by decide, by decide⟩ ox).mpr q), if_pos q]
      · rw [if_neg (fun z => q ((oi_le ⟨by decide, by decide⟩ ox).mp z)), if_neg q]
    rw [e1]
    exact hx
  · obtain ⟨x, t, hp, rfl, hw, hc⟩ := h
    obtain ⟨ox, ot⟩ := ok_1 hR.2.2.1
    obtain ⟨pos, hpp⟩ := tb_pool hp
    have hx := (hC _ _ _ _ hc).2 lsr H locs cells slots (hR.sk (ok_c (y := vl (abL x)) (by show inL (abL x); unfold abL; split; exact ox; exact wL_in _) ot))
    have q1 := hR.2.2.2.2.2.2.1
    have q2 := hR.2.2.2.2.2.2.2
    refine va_mabs_long (x := Int64.ofInt x) (rest := t.map (mrv base b)) F.1 F.2.1 (by rw [F.2.2.1]; exact hR.1.1.symm) F.2.2.2.1 (F.2.2.2.2.1 _ (tb_in (i := pos) hpp)) (F.2.2.2.2.1 _ tb_mabsl) (F.2.2.2.2.1 _ tb_mi) (F.2.2.2.2.1 _ tb_mabslc) (by omega) (by rw [wds_cat]; omega) (by omega) (by omega) hd ?_
    have e1 : (if 0 < Int64.ofInt x then Int64.ofInt x else -Int64.ofInt x) = Int64.ofInt (abL x) := by
      unfold abL
      rw [← oL_0, oL_neg]
      by_cases q : 0 < x
      · rw [if_pos ((oL_lt ⟨by decide, by decide⟩ ox).mpr q), if_pos q]
      · rw [if_neg (fun z => q ((oL_lt ⟨by decide, by decide⟩ ox).mp z)), if_neg q]
    rw [e1]
    exact hx
theorem z_invokespecial {idx : Nat} (hE : cE ≤ RR.cells ∧ sE ≤ RR.slots) (hRm : d + 1 ≤ RR.frames ∧ 60 * (d + 1) ≤ RR.locals) (IH : ∀ y a M r M1, call y a M r M1 → y < nMet → (M.1 ≤ M1.1 ∧ M.2.1 ≤ M1.2.1) ∧ mMet d y a M r M1) (F : mFix p s m args meth c D cI cZ cW base b k) (hC : SimC p l e RR s m args below meth c Q D cI cZ cW base b L xs k cE sE Me C) (hR : RS D cI cZ cW base b L xs s k cE sE Me ls st M lsr H locs cells slots) (hd : decode (mcode k) pc = .ok (.invokespecial idx, len)) (h : stepI call k (.invokespecial idx) len pc ls st M C) : W p l e RR s m args below meth c H locs cells slots Q (F0 m pc lsr (st.map (mrv base b))) := by
  obtain ⟨rfl, h | h⟩ := h
  · obtain ⟨y, n, as, a, t, M1, hp, rfl, has, hst, hni, hw, hcall, hc⟩ := h
    have oas : ∀ v ∈ as, vok v := fun v hv => hR.2.2.1 v (List.mem_append_left _ (List.mem_reverse.mpr hv))
    have ot : ∀ v ∈ t, vok v := fun v hv => hR.2.2.1 v (List.mem_append_right _ (List.mem_cons_of_mem _ hv))
    obtain ⟨r, hrr⟩ : ∃ r : Option MV, r = none := ⟨_, rfl⟩
    rw [← hrr] at hcall
    replace hc : C (pc + 3) ls (r.toList ++ t) M1 := by rw [hrr]; exact hc
    obtain ⟨pos, hpp⟩ := tb_pool hp
    replace hpp : (decide (y < nMet) && tb_at pos (Cond.methodLink (cn (mcls k)) idx (mname y)) && decide (nPar (mname y).desc = some n)) = true := hpp
    simp only [Bool.and_eq_true, decide_eq_true_eq] at hpp
    obtain ⟨⟨hy, hlk⟩, hnp⟩ := hpp
    obtain ⟨t1, t2, t3, t4, t5, t6, t7, t8, t9, t10, t11⟩ := tb_met hy
    obtain ⟨hmo, hMet⟩ := IH y _ M r M1 hcall hy
    have hm := (hC _ _ _ _ hc).1
    have cb := callB_of (R := RR) (own := cn (mcls k)) (index := idx) (rm := mrm d (M1.1 - M.1) (M1.2.1 - M.2.1)) n F.2.2.2.2.1 (mws_good hy) rfl rfl rfl (F.2.2.2.2.1 _ t3) (F.2.2.2.2.1 _ (tb_in hlk)) ⟨t7, t8, hnp⟩ ⟨hRm.1, by show 8 + (mmaxl y + 11) + 60 * d ≤ _; omega⟩
    have hroom : cells + (M1.1 - M.1) ≤ RR.cells ∧ slots + (M1.2.1 - M.2.1) ≤ RR.slots := by
      have q1 := hR.2.2.2.2.2.2.1
      have q2 := hR.2.2.2.2.2.2.2
      omega
    obtain ⟨z, hz⟩ : ∃ z : Nat, mrv base b (vr a) = .ref z := ⟨_, rfl⟩
    have hM := hMet l D cI cZ cW base b L xs (ok_c trivial oas)
    rw [List.map_cons, hz] at hM
    rw [t10 hni] at cb
    have key : ∀ (v : Option Value) (st1 u : State) (H2 : Heap) (L2 : List Loc), u.heap = H2 → s.vm.Alike u.vm → mQc D cI cZ cW base b L xs r M1 (Value.ref z :: as.map (mrv base b)).toArray st1 (.returned v) u → (∀ q ∈ L2, base ≤ q.base) → W p l e RR s m args below meth c H2 (locs ++ L2) (cells + (M1.1 - M.1)) (slots + (M1.2.1 - M.2.1)) Q (F0 m (pc + 3) lsr (v.toList ++ t.map (mrv base b))) := by
      intro v st1 u H2 L2 h1 h2 h3 h4
      obtain ⟨h5, ⟨h6, h7, h8, h9⟩, h10⟩ := h3
      injection h5 with h5
      rw [h5, toL]
      rw [h1] at h6 h8
      have hm := (hC _ _ _ _ hc).1
      refine (hC _ _ _ _ hc).2 lsr H2 _ _ _ ⟨hR.1, hR.2.1, fun v hv => ?_, h6, va_X.moved h2.symm h8, fun q hq => ?_, ?_, ?_⟩
      · rcases List.mem_append.mp hv with g | g
        · exact h10 v (by cases r with
            | none => cases g
            | some x => rw [List.mem_singleton.mp g])
        · exact ot v g
      · rcases List.mem_append.mp hq with g | g
        · exact hR.2.2.2.2.2.1 q g
        · exact h4 q g
      · have := hR.2.2.2.2.2.2.1; omega
      · have := hR.2.2.2.2.2.2.2; omega
    rw [List.map_append, List.map_cons, hz, List.map_reverse]
    exact z_goes (va_runI (b := z) (As := as.map (mrv base b)) (rest := t.map (mrv base b)) ⟨F.1, F.2.1, F.2.2.1, F.2.2.2.1, F.2.2.2.2.1⟩ hM ⟨cb, by simpa using hni, F.2.2.2.2.1 _ (t5 hst)⟩ ⟨mPc_blind, fun U hU hW => ⟨rfl, by rw [hU]; exact hR.2.2.2.1, va_K.moved hW.alike F.2.2.2.2.2.1, by rw [hU]; exact va_X.moved hW.alike hR.2.2.2.2.1, va_AO.moved hW.alike F.2.2.2.2.2.2.2.2⟩⟩ rfl (by rw [List.length_map]; exact has) hR.1.1 rfl (lv_room (by rw [wds_cat]; exact hw)) hd hroom) key
  · obtain ⟨a, t, hp, rfl, hw, hc⟩ := h
    obtain ⟨-, ot⟩ := ok_1 hR.2.2.1
    obtain ⟨pos, hpp⟩ := tb_pool hp
    have hx := (hC _ _ _ _ hc).2 lsr H locs cells slots (hR.sk ot)
    exact W.objInit (rest := t.map (mrv base b)) F.1 F.2.1 F.2.2.2.1 (F.2.2.2.2.1 _ (tb_in (i := pos) hpp)) (F.2.2.2.2.1 _ tb_obi) (F.2.2.2.2.1 _ tb_obc) rfl (by rw [F.2.2.1]; exact hR.1.1) rfl hd (by omega) (by
      have h9 := wds_cat (base := base) (b := b) t
      have h8 : 2 * (F0 m pc lsr ((vr a :: t).map (mrv base b))).monitorRoom + ((t.map (mrv base b)).map fun v => v.category).sum ≤ 8 := lv_room (by rw [h9]; exact hw)
      omega) hx
end SIMF
end
section
/-! the small machine's runs are the machine's -/
section SIMG
variable {p : Program} {l : Launch} {e : Env} {RR : Room} {s : State} {m : MethodId} {args : Array Value} {below : List Frame} {meth : Method} {c : Code} {Q : State → Prop} {D : va_G} {cI cZ cW : ClassId} {base b L : Nat} {xs : Nat → Int32} {k cE sE d : Nat} {Me : MM} {C : Nx} {call : Cl}
variable {ls st : List MV} {M : MM} {lsr : Array Slot} {H : Heap} {locs : List Loc} {cells slots pc len : Nat}
set_option maxHeartbeats 2000000 in
theorem sim_step {i : Instr} (hE : cE ≤ RR.cells ∧ sE ≤ RR.slots) (hRm : d + 1 ≤ RR.frames ∧ 60 * (d + 1) ≤ RR.locals) (IH : ∀ y a M r M1, call y a M r M1 → y < nMet → (M.1 ≤ M1.1 ∧ M.2.1 ≤ M1.2.1) ∧ mMet d y a M r M1) (F : mFix p s m args meth c D cI cZ cW base b k) (hC : SimC p l e RR s m args below meth c Q D cI cZ cW base b L xs k cE sE Me C) (hR : RS D cI cZ cW base b L xs s k cE sE Me ls st M lsr H locs cells slots) (hd : decode (mcode k) pc = .ok (i, len)) (h : stepI call k i len pc ls st M C) : W p l e RR s m args below meth c H locs cells slots Q (F0 m pc lsr (st.map (mrv base b))) := by
  cases i
  case iconst n => exact z_iconst F hC hR hd h
  case bipush n => exact z_bipush F hC hR hd h
  case sipush n => exact z_sipush F hC hR hd h
  case lconst n => exact z_lconst F hC hR hd h
  case ldc n => exact z_ldc F hC hR hd h
  case ldc_w n => exact z_ldc_w F hC hR hd h
  case ldc2_w n => exact z_ldc2_w F hC hR hd h
  case iload n => exact z_iload F hC hR hd h
  case iload_n n => exact z_iload_n F hC hR hd h
  case lload n => exact z_lload F hC hR hd h
  case lload_n n => exact z_lload_n F hC hR hd h
  case aload n => exact z_aload F hC hR hd h
  case aload_n n => exact z_aload_n F hC hR hd h
  case istore n => exact z_istore F hC hR hd h
  case istore_n n => exact z_istore_n F hC hR hd h
  case lstore n => exact z_lstore F hC hR hd h
  case lstore_n n => exact z_lstore_n F hC hR hd h
  case astore n => exact z_astore F hC hR hd h
  case astore_n n => exact z_astore_n F hC hR hd h
  case iinc n x => exact z_iinc F hC hR hd h
  case iadd => exact z_iadd F hC hR hd h
  case isub => exact z_isub F hC hR hd h
  case imul => exact z_imul F hC hR hd h
  case idiv => exact z_idiv F hC hR hd h
  case irem => exact z_irem F hC hR hd h
  case iand => exact z_iand F hC hR hd h
  case ixor => exact z_ixor F hC hR hd h
  case ishl => exact z_ishl F hC hR hd h
  case ishr => exact z_ishr F hC hR hd h
  case iushr => exact z_iushr F hC hR hd h
  case ineg => exact z_ineg F hC hR hd h
  case ladd => exact z_ladd F hC hR hd h
  case lsub => exact z_lsub F hC hR hd h
  case lmul => exact z_lmul F hC hR hd h
  case ldiv => exact z_ldiv F hC hR hd h
  case lrem => exact z_lrem F hC hR hd h
  case land => exact z_land F hC hR hd h
  case lor => exact z_lor F hC hR hd h
  case lshl => exact z_lshl F hC hR hd h
  case lneg => exact z_lneg F hC hR hd h
  case lcmp => exact z_lcmp F hC hR hd h
  case i2l => exact z_i2l F hC hR hd h
  case l2i => exact z_l2i F hC hR hd h
  case dup => exact z_dup F hC hR hd h
  case dup2 => exact z_dup2 F hC hR hd h
  case pop => exact z_pop F hC hR hd h
  case if_icmp cc off => exact z_if_icmp F hC hR hd h
  case ifCond cc off => exact z_ifCond F hC hR hd h
  case goto off => exact z_goto F hC hR hd h
  case ifnull off => exact z_ifnull F hC hR hd h
  case ifnonnull off => exact z_ifnonnull F hC hR hd h
  case tableswitch a1 a2 a3 a4 => exact z_tableswitch F hC hR hd h
  case getfield idx => exact z_getfield F hC hR hd h
  case putfield idx => exact z_putfield F hC hR hd h
  case iaload => exact z_iaload F hC hR hd h
  case baload => exact z_baload F hC hR hd h
  case aaload => exact z_aaload F hC hR hd h
  case iastore => exact z_iastore F hC hR hd h
  case bastore => exact z_bastore F hC hR hd h
  case aastore => exact z_aastore F hC hR hd h
  case arraylength => exact z_arraylength F hC hR hd h
  case newarray ty => exact z_newarray hE F hC hR hd h
  case anewarray idx => exact z_anewarray hE F hC hR hd h
  case new idx => exact z_newc hE F hC hR hd h
  case invokevirtual idx => exact z_invokevirtual hE hRm IH F hC hR hd h
  case invokestatic idx => exact z_invokestatic hE hRm IH F hC hR hd h
  case invokespecial idx => exact z_invokespecial hE hRm IH F hC hR hd h
  all_goals exact False.elim h
theorem sim_ex (hE : cE ≤ RR.cells ∧ sE ≤ RR.slots) (hRm : d + 1 ≤ RR.frames ∧ 60 * (d + 1) ≤ RR.locals) (IH : ∀ y a M r M1, call y a M r M1 → y < nMet → (M.1 ≤ M1.1 ∧ M.2.1 ≤ M1.2.1) ∧ mMet d y a M r M1) (F : mFix p s m args meth c D cI cZ cW base b k) {r : Option MV}
    (hend : ∀ (pc : Nat) (ls st : List MV) (i : Instr) (len : Nat) (lsr : Array Slot) (H : Heap) (locs : List Loc) (cells slots : Nat), decode (mcode k) pc = .ok (i, len) → retI k i len st r → RS D cI cZ cW base b L xs s k cE sE Me ls st Me lsr H locs cells slots → W p l e RR s m args below meth c H locs cells slots Q (F0 m pc lsr (st.map (mrv base b)))) :
    ∀ (n pc : Nat) (ls st : List MV) (M : MM), Ex call k n pc ls st M r Me → (M.1 ≤ Me.1 ∧ M.2.1 ≤ Me.2.1) ∧ ∀ lsr H locs cells slots, RS D cI cZ cW base b L xs s k cE sE Me ls st M lsr H locs cells slots → W p l e RR s m args below meth c H locs cells slots Q (F0 m pc lsr (st.map (mrv base b))) := by
  intro n
  induction n with
  | zero => intro pc ls st M h; exact False.elim h
  | succ n ih =>
    intro pc ls st M h
    refine ⟨h.mono, fun lsr H locs cells slots hR => ?_⟩
    obtain ⟨-, i, len, hd, h | h⟩ := h
    · obtain ⟨h1, rfl⟩ := h
      exact hend pc ls st i len lsr H locs cells slots hd h1 hR
    · exact sim_step hE hRm IH F (fun pc2 ls2 st2 M2 h2 => ih pc2 ls2 st2 M2 h2) hR hd h
end SIMG
theorem flt_sl {base b : Nat} : ∀ a : List MV, (lg_sl (a.map (mrv base b))).length = (flt a).length
  | [] => rfl
  | v :: t => by
    have h := flt_sl (base := base) (b := b) t
    unfold lg_sl flt at *
    rw [List.map_cons, List.flatMap_cons, List.flatMap_cons, List.length_append, List.length_append, h]
    congr 1
    match v with
    | Sum.inl x => rfl
    | Sum.inr (Sum.inl x) => rfl
    | Sum.inr (Sum.inr none) => rfl
    | Sum.inr (Sum.inr (some x)) => rfl
theorem flt_in {base b : Nat} : ∀ (a : List MV) (o i : Nat) (v : MV), (flt a)[i]? = some v → v ≠ vn → (o + i, mrv base b v) ∈ lv_args o (a.map (mrv base b))
  | [], o, i, v, h, _ => by unfold flt at h; cases h
  | u :: t, o, i, v, h, hv => by
    have key : ∀ w : Nat, (∀ j, (flt t)[j]? = some v → (o + w + j, mrv base b v) ∈ lv_args (o + w) (t.map (mrv base b))) := fun w j hj => flt_in t (o + w) j v hj hv
    match u, h with
    | Sum.inl x, h =>
      show _ ∈ (o, mrv base b (vi x)) :: lv_args (o + 1) (t.map (mrv base b))
      match i, h with
      | 0, h => have e : vi x = v := Option.some.inj h; rw [← e]; exact List.mem_cons_self
      | i + 1, h => exact List.mem_cons_of_mem _ (by rw [show o + (i + 1) = o + 1 + i by omega]; exact key 1 i h)
    | Sum.inr (Sum.inl x), h =>
      show _ ∈ (o, mrv base b (vl x)) :: lv_args (o + 2) (t.map (mrv base b))
      match i, h with
      | 0, h => have e : vl x = v := Option.some.inj h; rw [← e]; exact List.mem_cons_self
      | 1, h => have e : vn = v := Option.some.inj h; exact absurd e.symm hv
      | i + 2, h => exact List.mem_cons_of_mem _ (by rw [show o + (i + 2) = o + 2 + i by omega]; exact key 2 i h)
    | Sum.inr (Sum.inr none), h =>
      show _ ∈ (o, mrv base b vn) :: lv_args (o + 1) (t.map (mrv base b))
      match i, h with
      | 0, h => have e : vn = v := Option.some.inj h; exact absurd e.symm hv
      | i + 1, h => exact List.mem_cons_of_mem _ (by rw [show o + (i + 1) = o + 1 + i by omega]; exact key 1 i h)
    | Sum.inr (Sum.inr (some x)), h =>
      show _ ∈ (o, mrv base b (vr x)) :: lv_args (o + 1) (t.map (mrv base b))
      match i, h with
      | 0, h => have e : vr x = v := Option.some.inj h; rw [← e]; exact List.mem_cons_self
      | i + 1, h => exact List.mem_cons_of_mem _ (by rw [show o + (i + 1) = o + 1 + i by omega]; exact key 1 i h)
theorem ent_rel {base b : Nat} {k : Nat} {a : List MV} (h : (flt a).length ≤ mmaxl k) {lsr : Array Slot} (hl : lv_has lsr (mmaxl k) (lv_args 0 (a.map (mrv base b)))) : LRel base b lsr (mmaxl k) (ent k a) := by
  refine ⟨hl.1, ?_, hl.2.1, fun i v hi hv => ?_⟩
  · unfold ent; rw [List.length_append, List.length_replicate]; omega
  · unfold ent at hi
    rcases Nat.lt_or_ge i (flt a).length with q | q
    · rw [List.getElem?_append_left q] at hi
      have := flt_in (base := base) (b := b) a 0 i v hi hv
      rw [Nat.zero_add] at this
      exact hl.2.2 _ this
    · rw [List.getElem?_append_right q] at hi
      have := List.mem_of_getElem? hi
      exact absurd (List.eq_of_mem_replicate this) hv
theorem ok_flt : ∀ a : List MV, (∀ v ∈ a, vok v) → ∀ v ∈ flt a, vok v
  | [], _, v, h => by unfold flt at h; cases h
  | u :: t, ha, v, h => by
    have ht := ok_flt t (fun v hv => ha v (List.mem_cons_of_mem _ hv))
    have hu := ha u List.mem_cons_self
    unfold flt at h
    rw [List.flatMap_cons] at h
    rcases List.mem_append.mp h with q | q
    · match u, hu, q with
      | Sum.inl x, hu, q => rw [List.mem_singleton.mp q]; exact hu
      | Sum.inr (Sum.inl x), hu, q =>
        rcases List.mem_cons.mp q with q | q
        · rw [q]; exact hu
        · rw [List.mem_singleton.mp q]; exact trivial
      | Sum.inr (Sum.inr r), hu, q => rw [List.mem_singleton.mp q]; exact trivial
    · exact ht v q
theorem ok_ent {k : Nat} {a : List MV} (ha : ∀ v ∈ a, vok v) : ∀ v ∈ ent k a, vok v := fun v hv => by
  unfold ent at hv
  rcases List.mem_append.mp hv with q | q
  · exact ok_flt a ha v q
  · rw [List.eq_of_mem_replicate q]; exact trivial
/-- THE SMALL MACHINE'S CONTRACTS ARE THE MACHINE'S -/
theorem sim_met : ∀ (d k : Nat) (a : List MV) (M : MM) (r : Option MV) (M2 : MM), Runs d k a M r M2 → k < nMet → (M.1 ≤ M2.1 ∧ M.2.1 ≤ M2.2.1) ∧ mMet d k a M r M2 := by
  intro d
  induction d with
  | zero => intro k a M r M2 h; exact False.elim h
  | succ d ih =>
    intro k a M r M2 h hk
    refine ⟨h.mono, ?_⟩
    obtain ⟨hlen, n, hex⟩ := h
    intro l D cI cZ cW base b L xs hoa
    obtain ⟨t1, t2, t3, t4, t5, t6, t7, t8, t9, t10, t11⟩ := tb_met hk
    refine Met.ofW (cc := mcode k) (maxL := mmaxl k) (ret := mret k) t2 rfl ?_
    intro p e s m args below meth c s₁ B hml hv
    obtain ⟨rfl, hHR, hK, hX, hAO⟩ := hv
    have hts0 := atoms_spec (ws := mws k) B.pre
    have hown : s.vm.findClass (mname k).cls = some m.cls := findClass_of_methodNamed B.named
    have hlocks := B.notSynchronized
    have F : mFix p s m (a.map (mrv base b)).toArray meth c D cI cZ cW base b k := ⟨B.exec, B.bytes, hml, by rw [← t1]; exact hown, fun w hw => hts0 w (List.mem_cons_of_mem _ hw), hK, hHR.2.2.1, fun h9 => (name_of_methodNamed B.named B.method).1.trans h9, hAO⟩
    have hx := B.exec
    have hb := B.bytes
    have hr := B.returns
    have hle : (lg_sl (a.map (mrv base b))).length ≤ mmaxl k := by rw [flt_sl]; exact hlen
    have hl := lv_entry (a.map (mrv base b)) (n := mmaxl k) hle
    rw [lg_entry_eq]
    refine (sim_ex (Me := M2) (cE := M2.1 - M.1) (sE := M2.2.1 - M.2.1) (L := L) (xs := xs) (RR := (headSpec (mws k) (mrm (d + 1) (M2.1 - M.1) (M2.2.1 - M.2.1))).room) ⟨Nat.le_refl _, Nat.le_refl _⟩ ⟨Nat.le_refl _, Nat.le_refl _⟩ (fun y a M r M1 h9 hy => ih y a M r M1 h9 hy) F (r := r) ?_ n 0 (ent k a) [] M hex).2 _ s.heap [] 0 0 ⟨ent_rel hlen hl, ok_ent hoa, fun v hv => absurd hv List.not_mem_nil, hHR, hX, fun q hq => absurd hq List.not_mem_nil, Nat.zero_add _, Nat.zero_add _⟩
    intro pc ls st i len lsr H locs cells slots hd hret hR
    obtain ⟨-, -, hos, hH2, hX2, hlo, hce, hse⟩ := hR
    rw [Nat.sub_self, Nat.add_zero] at hce hse
    subst hce
    subst hse
    have hpost : ∀ t : State, t.heap = H → s.WarmedH t.vm → mPic D cI cZ cW base b L xs M2 t := fun t ht hW => ⟨by rw [ht]; exact hH2, va_K.moved hW.alike hK, by rw [ht]; exact va_X.moved hW.alike hX2, va_AO.moved hW.alike hAO⟩
    unfold retI at hret
    split at hret
    · obtain ⟨rfl, x, rfl, rfl, h9⟩ := hret
      have hox : inI x := hos _ List.mem_cons_self
      rcases h9 with h9 | ⟨h9, h10⟩
      · exact W.iret (v := Int32.ofInt x) hx hb (hr.trans h9) (fun t ht hW => ⟨rfl, hpost t ht hW, fun v hv => by cases hv; exact hox⟩) hlo hd
      · exact W.zret (v := Int32.ofInt x) hx hb (hr.trans h9) (by rcases h10 with rfl | rfl <;> rfl) (fun t ht hW => ⟨rfl, hpost t ht hW, fun v hv => by cases hv; exact hox⟩) hlo hd
    · obtain ⟨rfl, x, rfl, rfl, h9⟩ := hret
      have hox : inL x := hos _ List.mem_cons_self
      exact W.lret (v := Int64.ofInt x) hx hb (hr.trans h9) (fun t ht hW => ⟨rfl, hpost t ht hW, fun v hv => by cases hv; exact hox⟩) hlo hd
    · obtain ⟨rfl, rfl, rfl, h9⟩ := hret
      exact W.vret hx hb (hr.trans h9) (fun t ht hW => ⟨rfl, hpost t ht hW, fun v hv => by cases hv⟩) hlo hd
    · exact False.elim hret
end
section
/-! THE CLAIM OUT OF ONE WALK OF THE LAW'S BODY. Your part is whole_start (and what it stands on); all else here is the same for every law, but numbers. -/
def R_law : String := "TornFringesLaw"
def lw_P (b : Addr) (xs : List Int32) (args : Array Value) (s : State) : Prop := args = #[.ref b] ∧ s.IntsAt b xs ∧ xs.length ≤ 6 ∧ (Jvm.Cond.and given_1 narrow_1).before args s = true
def lw_Q (_ : Array Value) (s : State) (o : Outcome) (t : State) : Prop := o = .returned (some (.int 1)) ∧ Framed s o t [] 600000 7302250
def lw_Z (below : List Frame) (a : Array Value) (s : State) : State → Prop := fun t => ∃ o, t.status = .running ∧ Ended t below o ∧ lw_Q a s o t
/-- the law's own end, with 1 on the stack, nothing written that was there before, its room as the claim has it -/
theorem lw_ret {p : Program} {l : Launch} {e : Env} {s : State} {m : MethodId} {below : List Frame} {meth : Method} {c : Code} {b : Nat} (hx : p.tables.exec = Jvm.exec) (hb : c.code = code) (hr : meth.sig.returnType = ret) (hlocks : meth.locks = false) {pc : Nat} {H : Heap} {ls : Array Slot} (hdg : decode code pc = .ok (.ireturn, 1)) : W p l e room_1 s m #[Value.ref b] below meth c H [] 600000 7302250 (lw_Z below #[Value.ref b] s) (F0 m pc ls [.int 1]) := by
  intro T hT X
  obtain ⟨fs, hret, hrun, hended, hW, hframe⟩ := X.leave (v := some (.int 1)) (hlocks := hlocks) (fun h => by rw [hr] at h; cases h)
  have hmeth' : T.vm.method? m = some meth := X.method'
  refine ⟨T.setFrames fs, ?_, .returned (some (.int 1)), hrun, hended, rfl, ⟨_, rfl⟩, hW, hframe⟩
  jvm_step X.here [X.here.top, hx, hb, hdg, hmeth', hr, ret, narrow_b1]
  (try refine ⟨rfl, ?_⟩); (try refine ⟨rfl, ?_⟩)
  first | (intro acts; rw [hret _ acts rfl rfl rfl]) | rw [hret _ _ rfl rfl rfl]
  exact Steps.refl _
/-- what holds at the law's entry: the machine, the code, the tables' words (any of lw_tbl by 'hts w (by decide +kernel)'), the script of L ints xs at the cell b, what the Statement gives of the start (any of its parts by flat_of_before) -/
def lw_At (p : Program) (s : State) (m : MethodId) (meth : Method) (c : Code) (b L : Nat) (xs : Nat → Int32) : Prop :=
  p.tables.exec = Jvm.exec ∧ c.code = code ∧ meth.sig.returnType = ret ∧ c.maxLocals = 4 ∧ s.vm.findClass R_law = some m.cls ∧ (∀ w ∈ lw_tbl, w.before #[Value.ref b] s = true) ∧ va_X b L xs s s.heap ∧ b < s.heap.size ∧ meth.locks = false ∧ (Jvm.Cond.and given_1 narrow_1).before #[Value.ref b] s = true
/-- the small machine at the law's entry -/
def mM0 (L : Nat) (xs : Nat → Int32) : MM := (1, 0, fun a => if a = 0 then (23, L) else (99, 0), fun _ _ => none, fun a j => if a = 0 ∧ j < L then (xs j).toInt else 0)
theorem gtl_lw {w : Cond} (h : w ∈ gtl) : w ∈ lw_tbl := (List.mem_filter.mp h).1
theorem ka_of {s : State} {args : Array Value} {ty : FieldType} (hp : (∃ C, ty = .object C) = False) (h : (Cond.arrayClass ty).before args s = true) : ∃ cA : ClassId, ArrOfT s cA ty ∧ va_RA s cA ty := by
  obtain ⟨cA, kA, comp, h1, h2, h3⟩ := Cond.arrayClass_spec h
  refine ⟨cA, fun n z => ⟨fun k h => (by cases h), kA, h2, comp, h3⟩, ?_⟩
  cases ty with
  | object C => exact absurd ⟨C, rfl⟩ (of_eq_false hp)
  | _ => exact h1
theorem kw_of {s : State} {args : Array Value} {C : String} (h : (Cond.arrayOver (.object C)).before args s = true) : ∃ cA : ClassId, ArrOfT s cA (.object C) ∧ va_RA s cA (.object C) := by
  obtain ⟨comp, cA, kA, h1, h2, h3, h4, h5⟩ := Cond.arrayOver_spec h
  exact ⟨cA, fun n z => ⟨(fun k h => by cases h), kA, h3, comp, h4⟩, kA, comp, h3, h4, h1, h5⟩
def whole_run : Prop := ∀ (L : Nat) (xs : Nat → Int32), L ≤ 6 → ∃ d, d ≤ 1300 ∧ Wm d 291 0 [vr 0, vn, vn, vn] [] (mM0 L xs) (fun r M2 => r = some (vi 1) ∧ M2.1 ≤ 600001 ∧ M2.2.1 ≤ 7302250)
theorem whole_of (hrun : whole_run) {p : Program} {e : Env} {s : State} {m : MethodId} {below : List Frame} {meth : Method} {c : Code} (l : Launch) {b L : Nat} {xs : Nat → Int32} (hL : L ≤ 6) (C0 : lw_At p s m meth c b L xs) : W p l e room_1 s m #[Value.ref b] below meth c s.heap [] 0 0 (lw_Z below #[Value.ref b] s) (entryFrame m ([Value.ref b] : List Value).toArray 4) := by
  obtain ⟨hx, hb, hr, hml, hown, hts, hX, hbl, hlocks, hgv⟩ := C0
  obtain ⟨d, hd, n, r, M2, hex, rfl, hc, hs⟩ := hrun L xs hL
  have htg : ∀ w ∈ gtl, w.before #[Value.ref b] s = true := fun w hw => hts w (gtl_lw hw)
  have hcl : ∀ c : Nat, ∃ (cC : ClassId) (iS : Nat → Nat), ∀ q : vw_C, cks[c]? = some q → u_Kn s q.1 q.2.1 q.2.2 cC iS := by
    intro c
    cases hq : cks[c]? with
    | none => exact ⟨0, fun _ => 0, fun q h => by cases h⟩
    | some q =>
      obtain ⟨hin, -, hins, -⟩ := tb_cls hq
      obtain ⟨cC, iS, hk⟩ := u_known (C := q.1) (T := q.2.1) (N := q.2.2) htg hin (htg _ hins)
      exact ⟨cC, iS, fun q2 h2 => by cases h2; exact hk⟩
  obtain ⟨cI, hI1, hI2⟩ := ka_of (ty := .int) (by simp) (htg _ tb_ai)
  obtain ⟨cZ, hZ1, hZ2⟩ := ka_of (ty := .boolean) (by simp) (htg _ tb_az)
  obtain ⟨cW, hW1, hW2⟩ := kw_of (hts _ tb_ao)
  have hK : va_K (fun c => Classical.choose (hcl c), fun c => Classical.choose (Classical.choose_spec (hcl c))) cks (mtys cI cZ cW) s := by
    refine ⟨fun c q hq => Classical.choose_spec (Classical.choose_spec (hcl c)) q hq, fun k q hq => ?_⟩
    match k, hq with
    | 0, hq => cases hq; exact ⟨hI1, hI2⟩
    | 1, hq => cases hq; exact ⟨hZ1, hZ2⟩
    | 2, hq => cases hq; exact ⟨hW1, hW2⟩
    | k + 3, hq => cases hq
  have F : mFix p s m #[Value.ref b] meth c (fun c => Classical.choose (hcl c), fun c => Classical.choose (Classical.choose_spec (hcl c))) cI cZ cW s.heap.size b 291 := ⟨hx, hb, hml, hown, htg, hK, hbl, fun h => absurd h (by decide +kernel), va_AO.of (hts _ tb_ao)⟩
  have hm0 : (mM0 L xs).1 = 1 ∧ (mM0 L xs).2.1 = 0 := ⟨rfl, rfl⟩
  have hmono := hex.mono
  rw [hm0.1, hm0.2] at hmono
  have hHR : mHR (fun c => Classical.choose (hcl c), fun c => Classical.choose (Classical.choose_spec (hcl c))) cI cZ cW s.heap.size b L xs (mM0 L xs) s.heap := by
    refine ⟨⟨Nat.le_refl _, rfl, fun a ha => ?_, fun a j => ?_, fun a n j ha => ?_, fun j hj => ?_, fun a ha => ?_, fun a => ?_⟩, rfl, hbl, fun a h1 h2 => ?_⟩
    · show (if a = 0 then _ else _) = _
      rw [if_neg (by have : 1 ≤ a := ha; omega)]
    · show inI (if a = 0 ∧ j < L then _ else _)
      split
      · exact oi_in _
      · exact ⟨by decide, by decide⟩
    · have h9 : (if a = 0 then (23, L) else (99, 0)) = (21, n) := ha
      split at h9 <;> cases h9
    · show (if 0 = 0 ∧ j < L then _ else _) = _
      rw [if_pos ⟨rfl, hj⟩]
    · show (if a = 0 then ((23, L) : Nat × Nat) else (99, 0)).1 ≠ 23
      rw [if_neg (by omega)]
      decide
    · show (if a = 0 then ((23, L) : Nat × Nat) else (99, 0)).2 < _
      split
      · show L < _; omega
      · show 0 < _; omega
    · have : a < 1 := h2
      omega
  have hl := lv_entry ([.ref b]) (n := 4) (Nat.le_of_ble_eq_true rfl)
  rw [lg_entry_eq]
  have hl2 : LRel s.heap.size b ((lg_sl ([Value.ref b]) ++ List.replicate (4 - (lg_sl ([Value.ref b])).length) Slot.unset).toArray) (mmaxl 291) [vr 0, vn, vn, vn] := by
    refine ⟨rfl, rfl, hl.2.1, fun i v hi hv => ?_⟩
    match i, hi with
    | 0, hi => cases hi; exact hl.2.2 (0, .ref b) List.mem_cons_self
    | 1, hi => cases hi; exact absurd rfl hv
    | 2, hi => cases hi; exact absurd rfl hv
    | 3, hi => cases hi; exact absurd rfl hv
    | i + 4, hi => cases hi
  refine (sim_ex (Me := M2) (cE := M2.1 - 1) (sE := M2.2.1) (L := L) (xs := xs) (RR := room_1) ⟨by show _ ≤ 600000; omega, by show _ ≤ 7302250; omega⟩ ⟨by show d + 1 ≤ 2048; omega, by show 60 * (d + 1) ≤ 84000; omega⟩ (fun y a M r M1 h9 hy => sim_met d y a M r M1 h9 hy) F (r := some (vi 1)) ?_ n 0 [vr 0, vn, vn, vn] [] (mM0 L xs) hex).2 _ s.heap [] 0 0 ⟨hl2, fun v hv => ?_, fun v hv => absurd hv List.not_mem_nil, hHR, hX, fun q hq => absurd hq List.not_mem_nil, by rw [hm0.1]; omega, by rw [hm0.2]; omega⟩
  · intro pc ls st i len lsr H locs cells slots hd2 hret hR
    obtain ⟨-, -, hos, hH2, hX2, hlo, hce, hse⟩ := hR
    rw [Nat.sub_self, Nat.add_zero] at hce hse
    unfold retI at hret
    split at hret
    · obtain ⟨rfl, x, rfl, h8, h9⟩ := hret
      cases h8
      refine va_forget (fun q hq => hlo q hq) ?_
      refine W.widen (k := 600000) (n := 7302250) (by omega) (by omega) ?_
      exact lw_ret hx hb hr hlocks hd2
    · obtain ⟨rfl, x, rfl, h8, h9⟩ := hret
      cases h8
    · obtain ⟨rfl, rfl, h8, h9⟩ := hret
      cases h8
    · exact False.elim hret
  · simp only [List.mem_cons, List.not_mem_nil, or_false] at hv
    rcases hv with rfl | rfl | rfl | rfl <;> exact trivial
end
section
/-! THE EVALUATOR: the small machine, run by the kernel on values of which some are known by their bounds alone -/
abbrev VV : Type := MV ⊕ (Nat × Int × Int)
abbrev ci (x : Int) : VV := Sum.inl (vi x)
abbrev cL (x : Int) : VV := Sum.inl (vl x)
abbrev cR (a : Nat) : VV := Sum.inl (vr a)
abbrev cN : VV := Sum.inl vn
abbrev aI : VV := Sum.inr (0, 0, 0)
/-- place, instruction, its length, three numbers -/
abbrev OE : Type := Nat × Instr × Nat × Nat × Nat × Nat
def BT (α : Type) : Nat → Type
  | 0 => Option α
  | n + 1 => Option (BT α n × BT α n)
def bN {α : Type} : (n : Nat) → BT α n
  | 0 => (none : Option α)
  | n + 1 => (none : Option (BT α n × BT α n))
noncomputable def bget {α : Type} (n : Nat) : BT α n → Nat → Option α :=
  Nat.rec (motive := fun n => BT α n → Nat → Option α) (fun t i => cond (Nat.beq i 0) (show Option α from t) none)
    (fun n ih t i => Option.rec (motive := fun _ => Option α) none (fun p => cond (Nat.ble (Nat.pow 2 n) i) (ih p.2 (Nat.sub i (Nat.pow 2 n))) (ih p.1 i)) (show Option (BT α n × BT α n) from t)) n
noncomputable def bset {α : Type} (n : Nat) : BT α n → Nat → α → BT α n :=
  Nat.rec (motive := fun n => BT α n → Nat → α → BT α n) (fun _ _ v => (some v : Option α))
    (fun n ih t i v => Option.rec (motive := fun _ => Option (BT α n × BT α n))
      (cond (Nat.ble (Nat.pow 2 n) i) (some (bN n, ih (bN n) (Nat.sub i (Nat.pow 2 n)) v)) (some (ih (bN n) i v, bN n)))
      (fun p => cond (Nat.ble (Nat.pow 2 n) i) (some (p.1, ih p.2 (Nat.sub i (Nat.pow 2 n)) v)) (some (ih p.1 i v, p.2)))
      (show Option (BT α n × BT α n) from t)) n
noncomputable def bsetK {α : Type} (n : Nat) : BT α n → Nat → α → (BT α n → Bool) → Bool :=
  Nat.rec (motive := fun n => BT α n → Nat → α → (BT α n → Bool) → Bool) (fun _ _ v k => k (some v : Option α))
    (fun n ih t i v k => Option.rec (motive := fun _ => Bool)
      (cond (Nat.ble (Nat.pow 2 n) i) (ih (bN n) (Nat.sub i (Nat.pow 2 n)) v (fun c => k (some (bN n, c) : Option (BT α n × BT α n)))) (ih (bN n) i v (fun c => k (some (c, bN n) : Option (BT α n × BT α n)))))
      (fun p => cond (Nat.ble (Nat.pow 2 n) i) (ih p.2 (Nat.sub i (Nat.pow 2 n)) v (fun c => k (some (p.1, c) : Option (BT α n × BT α n)))) (ih p.1 i v (fun c => k (some (c, p.2) : Option (BT α n × BT α n)))))
      (show Option (BT α n × BT α n) from t)) n
theorem bsetK_eq {α : Type} : ∀ (n : Nat) (t : BT α n) (i : Nat) (v : α) (k : BT α n → Bool), bsetK n t i v k = k (bset n t i v)
  | 0, _, _, _, _ => rfl
  | n + 1, t, i, v, k => by
    have ih := bsetK_eq (α := α) n
    have key : ∀ t : Option (BT α n × BT α n), (Option.rec (motive := fun _ => Bool)
      (cond (Nat.ble (Nat.pow 2 n) i) (bsetK n (bN n) (Nat.sub i (Nat.pow 2 n)) v (fun c => k (some (bN n, c) : Option (BT α n × BT α n)))) (bsetK n (bN n) i v (fun c => k (some (c, bN n) : Option (BT α n × BT α n)))))
      (fun p => cond (Nat.ble (Nat.pow 2 n) i) (bsetK n p.2 (Nat.sub i (Nat.pow 2 n)) v (fun c => k (some (p.1, c) : Option (BT α n × BT α n)))) (bsetK n p.1 i v (fun c => k (some (c, p.2) : Option (BT α n × BT α n))))) t) = k (bset (n + 1) t i v) := by
      intro t
      show _ = k (Option.rec (motive := fun _ => Option (BT α n × BT α n))
        (cond (Nat.ble (Nat.pow 2 n) i) (some (bN n, bset n (bN n) (Nat.sub i (Nat.pow 2 n)) v)) (some (bset n (bN n) i v, bN n)))
        (fun p => cond (Nat.ble (Nat.pow 2 n) i) (some (p.1, bset n p.2 (Nat.sub i (Nat.pow 2 n)) v)) (some (bset n p.1 i v, p.2))) t)
      cases t with
      | none => cases h : Nat.ble (Nat.pow 2 n) i <;> simp only [cond_true, cond_false, ih]
      | some p => cases h : Nat.ble (Nat.pow 2 n) i <;> simp only [cond_true, cond_false, ih]
    exact key t
theorem bget_bN {α : Type} : ∀ (n i : Nat), bget n (bN (α := α) n) i = none
  | 0, i => by show cond (Nat.beq i 0) none none = none; cases Nat.beq i 0 <;> rfl
  | _ + 1, _ => rfl
theorem bget_lt {α : Type} : ∀ (n : Nat) (t : BT α n) (i : Nat) (o : α), bget n t i = some o → i < 2 ^ n
  | 0, t, i, o, h => by
    have h : cond (Nat.beq i 0) (show Option α from t) none = some o := h
    cases hq : Nat.beq i 0 with
    | false => rw [hq] at h; cases h
    | true => rw [Nat.beq_eq] at hq; subst hq; exact Nat.zero_lt_one
  | n + 1, t, i, o, h => by
    have ih := bget_lt (α := α) n
    have hp : (2 : Nat) ^ (n + 1) = 2 ^ n + 2 ^ n := by rw [Nat.pow_succ]; omega
    have key : ∀ t : Option (BT α n × BT α n), bget (n + 1) t i = some o → i < 2 ^ (n + 1) := by
      intro t
      cases t with
      | none => intro h; cases h
      | some p =>
        show cond (Nat.ble (2 ^ n) i) (bget n p.2 (i - 2 ^ n)) (bget n p.1 i) = some o → _
        cases hq : Nat.ble (2 ^ n) i with
        | true =>
          have h1 := Nat.le_of_ble_eq_true hq
          intro h2
          have := ih _ _ _ h2
          omega
        | false =>
          intro h2
          have := ih _ _ _ h2
          omega
    exact key t h
theorem bget_bset {α : Type} : ∀ (n : Nat) (t : BT α n) (i j : Nat) (v : α), i < 2 ^ n → j < 2 ^ n → bget n (bset n t i v) j = if j = i then some v else bget n t j
  | 0, t, i, j, v, hi, hj => by
    have h1 : i = 0 := by simpa using hi
    have h2 : j = 0 := by simpa using hj
    subst h1; subst h2
    rfl
  | n + 1, t, i, j, v, hi, hj => by
    have ih := bget_bset (α := α) n
    have hp : (2 : Nat) ^ (n + 1) = 2 ^ n + 2 ^ n := by rw [Nat.pow_succ]; omega
    have g : ∀ (p : BT α n × BT α n) (j : Nat), bget (n + 1) (some p : Option (BT α n × BT α n)) j = cond (Nat.ble (2 ^ n) j) (bget n p.2 (j - 2 ^ n)) (bget n p.1 j) := fun p j => rfl
    have gn : ∀ (j : Nat), bget (n + 1) (none : Option (BT α n × BT α n)) j = none := fun j => rfl
    have sn : bset (n + 1) (none : Option (BT α n × BT α n)) i v = cond (Nat.ble (2 ^ n) i) (some (bN n, bset n (bN n) (i - 2 ^ n) v)) (some (bset n (bN n) i v, bN n)) := rfl
    have ss : ∀ p : BT α n × BT α n, bset (n + 1) (some p : Option (BT α n × BT α n)) i v = cond (Nat.ble (2 ^ n) i) (some (p.1, bset n p.2 (i - 2 ^ n) v)) (some (bset n p.1 i v, p.2)) := fun p => rfl
    have key : ∀ t : Option (BT α n × BT α n), bget (n + 1) (bset (n + 1) t i v) j = if j = i then some v else bget (n + 1) t j := by
      intro t
      cases t with
      | none =>
        rw [sn, gn]
        cases h : Nat.ble (2 ^ n) i with
        | true =>
          have h1 := Nat.le_of_ble_eq_true h
          rw [cond_true, g]
          cases h2 : Nat.ble (2 ^ n) j with
          | true =>
            have h3 := Nat.le_of_ble_eq_true h2
            rw [cond_true, ih _ _ _ _ (by omega) (by omega), bget_bN]
            by_cases h4 : j = i
            · rw [if_pos h4, if_pos (by omega)]
            · rw [if_neg h4, if_neg (by omega)]
          | false =>
            have h3 : ¬ 2 ^ n ≤ j := fun q => by rw [Nat.ble_eq_true_of_le q] at h2; cases h2
            rw [cond_false, bget_bN, if_neg (by omega)]
        | false =>
          have h1 : ¬ 2 ^ n ≤ i := fun q => by rw [Nat.ble_eq_true_of_le q] at h; cases h
          rw [cond_false, g]
          cases h2 : Nat.ble (2 ^ n) j with
          | true =>
            have h3 := Nat.le_of_ble_eq_true h2
            rw [cond_true, bget_bN, if_neg (by omega)]
          | false =>
            have h3 : ¬ 2 ^ n ≤ j := fun q => by rw [Nat.ble_eq_true_of_le q] at h2; cases h2
            rw [cond_false, ih _ _ _ _ (by omega) (by omega), bget_bN]
      | some p =>
        rw [ss, g]
        cases h : Nat.ble (2 ^ n) i with
        | true =>
          have h1 := Nat.le_of_ble_eq_true h
          rw [cond_true, g]
          cases h2 : Nat.ble (2 ^ n) j with
          | true =>
            have h3 := Nat.le_of_ble_eq_true h2
            rw [cond_true, cond_true, ih _ _ _ _ (by omega) (by omega)]
            by_cases h4 : j = i
            · rw [if_pos h4, if_pos (by omega)]
            · rw [if_neg h4, if_neg (by omega)]
          | false =>
            have h3 : ¬ 2 ^ n ≤ j := fun q => by rw [Nat.ble_eq_true_of_le q] at h2; cases h2
            rw [cond_false, cond_false, if_neg (by omega)]
        | false =>
          have h1 : ¬ 2 ^ n ≤ i := fun q => by rw [Nat.ble_eq_true_of_le q] at h; cases h
          rw [cond_false, g]
          cases h2 : Nat.ble (2 ^ n) j with
          | true =>
            have h3 := Nat.le_of_ble_eq_true h2
            rw [cond_true, cond_true, if_neg (by omega)]
          | false =>
            have h3 : ¬ 2 ^ n ≤ j := fun q => by rw [Nat.ble_eq_true_of_le q] at h2; cases h2
            rw [cond_false, cond_false, ih _ _ _ _ (by omega) (by omega)]
    exact key t
/-! a shorter look-up -/
def bit (i n : Nat) : Bool := Nat.beq (Nat.mod (Nat.shiftRight i n) 2) 1
noncomputable def dn {α : Type} (n i : Nat) (t : BT α (n + 1)) : BT α n := Option.rec (motive := fun _ => BT α n) (bN n) (fun p => Bool.rec (motive := fun _ => BT α n) p.1 p.2 (bit i n)) (show Option (BT α n × BT α n) from t)
noncomputable def gq {α : Type} : (n : Nat) → BT α n → Nat → Option α
  | 0, t, _ => t
  | n + 1, t, i => gq n (dn n i t) i
theorem bit_iff (i n : Nat) : bit i n = true ↔ i / 2 ^ n % 2 = 1 := by
  unfold bit
  rw [Nat.beq_eq]
  show (i >>> n) % 2 = 1 ↔ _
  rw [Nat.shiftRight_eq_div_pow]
theorem gq_eq {α : Type} : ∀ (n : Nat) (t : BT α n) (i : Nat), gq n t i = bget n t (i % 2 ^ n)
  | 0, t, i => by
    have h : i % 2 ^ 0 = 0 := Nat.mod_one i
    rw [h]
    rfl
  | n + 1, t, i => by
    show gq n (dn n i t) i = _
    rw [gq_eq n]
    have hm : i % 2 ^ (n + 1) = i % 2 ^ n + 2 ^ n * (i / 2 ^ n % 2) := Nat.mod_pow_succ
    have hl : i % 2 ^ n < 2 ^ n := Nat.mod_lt _ (Nat.two_pow_pos n)
    have key : ∀ t : Option (BT α n × BT α n), bget n (dn n i (show BT α (n + 1) from t)) (i % 2 ^ n) = bget (n + 1) (show BT α (n + 1) from t) (i % 2 ^ (n + 1)) := by
      intro t
      cases t with
      | none => exact bget_bN n _
      | some p =>
        show bget n (Bool.rec (motive := fun _ => BT α n) p.1 p.2 (bit i n)) (i % 2 ^ n) = cond (Nat.ble (2 ^ n) (i % 2 ^ (n + 1))) (bget n p.2 (i % 2 ^ (n + 1) - 2 ^ n)) (bget n p.1 (i % 2 ^ (n + 1)))
        generalize hb : bit i n = b
        cases b with
        | true =>
          rw [bit_iff] at hb
          rw [hb, Nat.mul_one] at hm
          have h2 : Nat.ble (2 ^ n) (i % 2 ^ (n + 1)) = true := Nat.ble_eq_true_of_le (by omega)
          rw [h2, cond_true, show i % 2 ^ (n + 1) - 2 ^ n = i % 2 ^ n by omega]
        | false =>
          have hb2 : ¬ i / 2 ^ n % 2 = 1 := fun q => by rw [← bit_iff, hb] at q; cases q
          have hb3 : i / 2 ^ n % 2 = 0 := by omega
          rw [hb3, Nat.mul_zero, Nat.add_zero] at hm
          have h2 : Nat.ble (2 ^ n) (i % 2 ^ (n + 1)) = false := by
            cases hq : Nat.ble (2 ^ n) (i % 2 ^ (n + 1)) with
            | false => rfl
            | true => have := Nat.le_of_ble_eq_true hq; omega
          rw [h2, cond_false, hm]
          rfl
    exact key t
noncomputable def q7 {α : Type} (t : BT α 7) (i : Nat) : Option α := cond (Nat.ble i 127) (dn 0 i (dn 1 i (dn 2 i (dn 3 i (dn 4 i (dn 5 i (dn 6 i t))))))) none
noncomputable def q9 {α : Type} (t : BT α 9) (i : Nat) : Option α := dn 0 i (dn 1 i (dn 2 i (dn 3 i (dn 4 i (dn 5 i (dn 6 i (dn 7 i (dn 8 i t))))))))
theorem q7_eq {α : Type} (t : BT α 7) (i : Nat) : q7 t i = bget 7 t i := by
  unfold q7
  cases h : Nat.ble i 127 with
  | true =>
    have h1 := Nat.le_of_ble_eq_true h
    have h2 := gq_eq 7 t i
    rw [Nat.mod_eq_of_lt (show i < 2 ^ 7 by omega)] at h2
    exact h2
  | false =>
    show none = bget 7 t i
    cases hq : bget 7 t i with
    | none => rfl
    | some o =>
      have := bget_lt 7 t i o hq
      rw [Nat.ble_eq_true_of_le (show i ≤ 127 by omega)] at h
      cases h
theorem q9_eq {α : Type} (t : BT α 9) (i : Nat) (hi : i < 512) : q9 t i = bget 9 t i := by
  have h2 := gq_eq 9 t i
  rw [Nat.mod_eq_of_lt (show i < 2 ^ 9 by omega)] at h2
  exact h2
/-! a row of numbers as one number, 40 bits a cell -/
def pget (A j : Nat) : Nat := Nat.mod (Nat.shiftRight A (Nat.mul 40 j)) 1099511627776
def pset (A j v : Nat) : Nat := Nat.sub (Nat.add A (Nat.shiftLeft v (Nat.mul 40 j))) (Nat.shiftLeft (pget A j) (Nat.mul 40 j))
def pclr (A lo n : Nat) : Nat := Nat.sub A (Nat.shiftLeft (Nat.mod (Nat.shiftRight A (Nat.mul 40 lo)) (Nat.shiftLeft 1 (Nat.mul 40 n))) (Nat.mul 40 lo))
noncomputable def pfill (n v : Nat) : Nat := Nat.rec (motive := fun _ => Nat) 0 (fun _ ih => Nat.add (Nat.mul ih 1099511627776) v) n
theorem pget_eq (A j : Nat) : pget A j = A / 2 ^ (40 * j) % 2 ^ 40 := by
  show (A >>> (40 * j)) % 1099511627776 = _
  rw [Nat.shiftRight_eq_div_pow]
theorem pget_lt (A j : Nat) : pget A j < 2 ^ 40 := by rw [pget_eq]; exact Nat.mod_lt _ (Nat.two_pow_pos 40)
theorem p_mod {X Y i j : Nat} (h : i < j) (hm : X % 2 ^ (40 * j) = Y % 2 ^ (40 * j)) : pget X i = pget Y i := by
  have e : 2 ^ (40 * j) = 2 ^ (40 * i) * 2 ^ 40 * 2 ^ (40 * (j - i - 1)) := by
    rw [← Nat.pow_add, ← Nat.pow_add]
    congr 1
    omega
  have key : ∀ Z, pget Z i = Z % 2 ^ (40 * j) / 2 ^ (40 * i) % 2 ^ 40 := by
    intro Z
    rw [pget_eq, ← Nat.mod_mul_right_div_self, ← Nat.mod_mul_right_div_self, e, Nat.mod_mod_of_dvd _ (Nat.dvd_mul_right _ _)]
  rw [key X, key Y, hm]
theorem p_div {X Y i j : Nat} (h : j ≤ i) (hm : X / 2 ^ (40 * j) = Y / 2 ^ (40 * j)) : pget X i = pget Y i := by
  have e : 2 ^ (40 * i) = 2 ^ (40 * j) * 2 ^ (40 * (i - j)) := by
    rw [← Nat.pow_add]
    congr 1
    omega
  rw [pget_eq, pget_eq, e, ← Nat.div_div_eq_div_mul, ← Nat.div_div_eq_div_mul, hm]
theorem pset_eq (A j v : Nat) : pset A j v = (A / 2 ^ (40 * j) / 2 ^ 40 * 2 ^ 40 + v) * 2 ^ (40 * j) + A % 2 ^ (40 * j) := by
  have h1 : A = A / 2 ^ (40 * j) * 2 ^ (40 * j) + A % 2 ^ (40 * j) := by rw [Nat.mul_comm]; exact (Nat.div_add_mod A _).symm
  have h2 : A / 2 ^ (40 * j) = A / 2 ^ (40 * j) / 2 ^ 40 * 2 ^ 40 + pget A j := by rw [pget_eq]; exact (Nat.div_add_mod' _ _).symm
  show A + (v <<< (40 * j)) - (pget A j <<< (40 * j)) = _
  rw [Nat.shiftLeft_eq, Nat.shiftLeft_eq]
  generalize A / 2 ^ (40 * j) / 2 ^ 40 = h at h2 ⊢
  generalize hP : 2 ^ (40 * j) = P at h1 h2 ⊢
  generalize pget A j = d at h2 ⊢
  generalize A % P = lo at h1 ⊢
  rw [h2] at h1
  rw [h1]
  rw [Nat.add_mul, Nat.add_mul]
  generalize h * 2 ^ 40 * P = x
  omega
theorem pget_pset {A j v i : Nat} (hv : v < 2 ^ 40) : pget (pset A j v) i = if i = j then v else pget A i := by
  have hP : 0 < 2 ^ (40 * j) := Nat.two_pow_pos _
  have hlo : A % 2 ^ (40 * j) < 2 ^ (40 * j) := Nat.mod_lt _ hP
  have hd : pset A j v / 2 ^ (40 * j) = A / 2 ^ (40 * j) / 2 ^ 40 * 2 ^ 40 + v := by
    rw [pset_eq, Nat.mul_comm _ (2 ^ (40 * j)), Nat.mul_add_div hP, Nat.div_eq_of_lt hlo, Nat.add_zero]
  have hm : pset A j v % 2 ^ (40 * j) = A % 2 ^ (40 * j) := by
    rw [pset_eq, Nat.mul_comm _ (2 ^ (40 * j)), Nat.mul_add_mod, Nat.mod_eq_of_lt hlo]
  by_cases hij : i = j
  · subst hij
    rw [if_pos rfl, pget_eq, hd, Nat.mul_comm, Nat.mul_add_mod, Nat.mod_eq_of_lt hv]
  · rw [if_neg hij]
    rcases Nat.lt_or_ge i j with h | h
    · exact p_mod h hm
    · refine p_div (j := j + 1) (by omega) ?_
      have e : 2 ^ (40 * (j + 1)) = 2 ^ (40 * j) * 2 ^ 40 := by rw [← Nat.pow_add]; congr 1
      rw [e, ← Nat.div_div_eq_div_mul, ← Nat.div_div_eq_div_mul, hd, Nat.mul_comm, Nat.mul_add_div (Nat.two_pow_pos 40), Nat.div_eq_of_lt hv, Nat.add_zero]
theorem pclr_eq (A lo n : Nat) : pclr A lo n = A / 2 ^ (40 * lo) / 2 ^ (40 * n) * 2 ^ (40 * n) * 2 ^ (40 * lo) + A % 2 ^ (40 * lo) := by
  have h1 : A = A / 2 ^ (40 * lo) * 2 ^ (40 * lo) + A % 2 ^ (40 * lo) := by rw [Nat.mul_comm]; exact (Nat.div_add_mod A _).symm
  have h2 : A / 2 ^ (40 * lo) = A / 2 ^ (40 * lo) / 2 ^ (40 * n) * 2 ^ (40 * n) + A / 2 ^ (40 * lo) % 2 ^ (40 * n) := (Nat.div_add_mod' _ _).symm
  show A - (((A >>> (40 * lo)) % (1 <<< (40 * n))) <<< (40 * lo)) = _
  rw [Nat.shiftLeft_eq, Nat.shiftLeft_eq, Nat.shiftRight_eq_div_pow, Nat.one_mul]
  generalize A / 2 ^ (40 * lo) / 2 ^ (40 * n) = h at h2 ⊢
  generalize A / 2 ^ (40 * lo) % 2 ^ (40 * n) = d at h2 ⊢
  generalize hP : 2 ^ (40 * lo) = P at h1 h2 ⊢
  generalize A % P = l at h1 ⊢
  rw [h2] at h1
  rw [h1, Nat.add_mul]
  generalize h * 2 ^ (40 * n) * P = x
  omega
theorem pget_pclr {A lo n i : Nat} : pget (pclr A lo n) i = if lo ≤ i ∧ i < lo + n then 0 else pget A i := by
  have hP : 0 < 2 ^ (40 * lo) := Nat.two_pow_pos _
  have hl : A % 2 ^ (40 * lo) < 2 ^ (40 * lo) := Nat.mod_lt _ hP
  have hd : pclr A lo n / 2 ^ (40 * lo) = A / 2 ^ (40 * lo) / 2 ^ (40 * n) * 2 ^ (40 * n) := by
    rw [pclr_eq, Nat.mul_comm _ (2 ^ (40 * lo)), Nat.mul_add_div hP, Nat.div_eq_of_lt hl, Nat.add_zero]
  have hm : pclr A lo n % 2 ^ (40 * lo) = A % 2 ^ (40 * lo) := by
    rw [pclr_eq, Nat.mul_comm _ (2 ^ (40 * lo)), Nat.mul_add_mod, Nat.mod_eq_of_lt hl]
  by_cases h1 : i < lo
  · rw [if_neg (by omega)]
    exact p_mod h1 hm
  · by_cases h2 : i < lo + n
    · rw [if_pos ⟨by omega, h2⟩, pget_eq]
      have e : 2 ^ (40 * i) = 2 ^ (40 * lo) * 2 ^ (40 * (i - lo)) := by rw [← Nat.pow_add]; congr 1; omega
      have e2 : 2 ^ (40 * n) = 2 ^ (40 * (i - lo)) * (2 ^ 40 * 2 ^ (40 * (lo + n - i - 1))) := by rw [← Nat.pow_add, ← Nat.pow_add]; congr 1; omega
      rw [e, ← Nat.div_div_eq_div_mul, hd, e2]
      generalize A / 2 ^ (40 * lo) / (2 ^ (40 * (i - lo)) * (2 ^ 40 * 2 ^ (40 * (lo + n - i - 1)))) = y
      rw [Nat.mul_comm y, Nat.mul_assoc, Nat.mul_div_cancel_left _ (Nat.two_pow_pos _), Nat.mul_assoc, Nat.mul_mod_right]
    · rw [if_neg (by omega)]
      refine p_div (j := lo + n) (by omega) ?_
      have e : 2 ^ (40 * (lo + n)) = 2 ^ (40 * lo) * 2 ^ (40 * n) := by rw [← Nat.pow_add]; congr 1; omega
      rw [e, ← Nat.div_div_eq_div_mul, ← Nat.div_div_eq_div_mul, hd, Nat.mul_div_cancel _ (Nat.two_pow_pos _)]
theorem pget_pfill {v : Nat} (hv : v < 2 ^ 40) : ∀ (n j : Nat), j < n → pget (pfill n v) j = v
  | 0, j, h => absurd h (Nat.not_lt_zero j)
  | n + 1, j, h => by
    have e : pfill (n + 1) v = 2 ^ 40 * pfill n v + v := by
      show pfill n v * 1099511627776 + v = _
      rw [Nat.mul_comm]
    cases j with
    | zero =>
      rw [e, pget_eq, Nat.mul_zero, Nat.pow_zero, Nat.div_one, Nat.mul_add_mod, Nat.mod_eq_of_lt hv]
    | succ j =>
      have e2 : 2 ^ (40 * (j + 1)) = 2 ^ 40 * 2 ^ (40 * j) := by rw [← Nat.pow_add]; congr 1; omega
      rw [e, pget_eq, e2, ← Nat.div_div_eq_div_mul, Nat.mul_add_div (Nat.two_pow_pos 40), Nat.div_eq_of_lt hv, Nat.add_zero, ← pget_eq]
      exact pget_pfill hv n j (by omega)
theorem pget_0 (j : Nat) : pget 0 j = 0 := by rw [pget_eq, Nat.zero_div, Nat.zero_mod]
/-- kind, length, the cells of an object or of a row of places, the cells of a row of numbers (unknown ones where the list isn't empty) -/
abbrev OB : Type := Nat × Nat × List (Option VV) × Nat
abbrev HT : Type := BT OB 7
abbrev CT : Type := List (Int × Int)
/-! numbers -/
theorem blm {n m : Nat} (h : Nat.ble n m = true) : n ≤ m := Nat.le_of_ble_eq_true h
def fI32 (z : Int) : Int := match z with
  | .ofNat n => cond (Nat.ble n 2147483647) (Int.ofNat n) (wI (Int.ofNat n))
  | .negSucc n => cond (Nat.ble n 2147483647) (Int.negSucc n) (wI (Int.negSucc n))
theorem fI32_eq (z : Int) : fI32 z = wI z := by
  cases z with
  | ofNat n =>
    show cond (Nat.ble n 2147483647) (Int.ofNat n) (wI (Int.ofNat n)) = wI (Int.ofNat n)
    generalize h : Nat.ble n 2147483647 = c
    cases c with
    | false => rw [cond_false]
    | true =>
      have h2 := blm h
      rw [cond_true, wI_id]
      unfold inI
      simp only [Int.ofNat_eq_natCast]
      omega
  | negSucc n =>
    show cond (Nat.ble n 2147483647) (Int.negSucc n) (wI (Int.negSucc n)) = wI (Int.negSucc n)
    generalize h : Nat.ble n 2147483647 = c
    cases c with
    | false => rw [cond_false]
    | true =>
      have h2 := blm h
      rw [cond_true, wI_id]
      unfold inI
      simp only [Int.negSucc_eq]
      omega
def fadd (x y : Int) : Int := fI32 (Int.add x y)
def fsub (x y : Int) : Int := fI32 (Int.sub x y)
def fmul (x y : Int) : Int := fI32 (Int.mul x y)
def fdiv (x y : Int) : Int := fI32 (Int.tdiv x y)
theorem fadd_eq (x y : Int) : fadd x y = wI (x + y) := fI32_eq _
theorem fsub_eq (x y : Int) : fsub x y = wI (x - y) := fI32_eq _
theorem fmul_eq (x y : Int) : fmul x y = wI (x * y) := fI32_eq _
theorem fdiv_eq (x y : Int) : fdiv x y = wI (x.tdiv y) := fI32_eq _
def ltB (x y : Int) : Bool := match x, y with
  | .ofNat a, .ofNat b => Nat.ble (Nat.succ a) b
  | .ofNat _, .negSucc _ => false
  | .negSucc _, .ofNat _ => true
  | .negSucc a, .negSucc b => Nat.ble (Nat.succ b) a
def eqB (x y : Int) : Bool := match x, y with
  | .ofNat a, .ofNat b => Nat.beq a b
  | .ofNat _, .negSucc _ => false
  | .negSucc _, .ofNat _ => false
  | .negSucc a, .negSucc b => Nat.beq a b
theorem ble_iff {a b : Nat} : Nat.ble a b = true ↔ a ≤ b := ⟨Nat.le_of_ble_eq_true, Nat.ble_eq_true_of_le⟩
theorem ltB_iff (x y : Int) : ltB x y = true ↔ x < y := by
  cases x with
  | ofNat a => cases y with
    | ofNat b => show Nat.ble (a + 1) b = true ↔ _; rw [ble_iff]; simp only [Int.ofNat_eq_natCast]; omega
    | negSucc b => show false = true ↔ _; constructor <;> intro h <;> first | (cases h; done) | (exfalso; simp only [Int.ofNat_eq_natCast, Int.negSucc_eq] at h; omega)
  | negSucc a => cases y with
    | ofNat b => show true = true ↔ _; constructor <;> intro h <;> first | rfl | (simp only [Int.ofNat_eq_natCast, Int.negSucc_eq]; omega)
    | negSucc b => show Nat.ble (b + 1) a = true ↔ _; rw [ble_iff]; simp only [Int.negSucc_eq]; omega
theorem eqB_iff (x y : Int) : eqB x y = true ↔ x = y := by
  cases x with
  | ofNat a => cases y with
    | ofNat b => show Nat.beq a b = true ↔ _; rw [Nat.beq_eq]; constructor <;> intro h <;> first | rw [h] | (cases h; rfl)
    | negSucc b => show false = true ↔ _; constructor <;> intro h <;> cases h
  | negSucc a => cases y with
    | ofNat b => show false = true ↔ _; constructor <;> intro h <;> cases h
    | negSucc b => show Nat.beq a b = true ↔ _; rw [Nat.beq_eq]; constructor <;> intro h <;> first | rw [h] | (cases h; rfl)
def cmB (c : Jvm.ClassFile.Cond) (x y : Int) : Bool := match c with
  | .eq => eqB x y
  | .ne => not (eqB x y)
  | .lt => ltB x y
  | .ge => not (ltB x y)
  | .gt => ltB y x
  | .le => not (ltB y x)
theorem cmB_iff (c : Jvm.ClassFile.Cond) (x y : Int) : cmB c x y = true ↔ cmI c x y := by
  have n1 : ∀ b : Bool, (!b) = true ↔ ¬ (b = true) := fun b => by cases b <;> simp
  cases c with
  | eq => exact eqB_iff x y
  | ne => show (!(eqB x y)) = true ↔ x ≠ y; rw [n1, eqB_iff]
  | lt => exact ltB_iff x y
  | ge => show (!(ltB x y)) = true ↔ y ≤ x; rw [n1, ltB_iff]; omega
  | gt => exact ltB_iff y x
  | le => show (!(ltB y x)) = true ↔ x ≤ y; rw [n1, ltB_iff]; omega
end
