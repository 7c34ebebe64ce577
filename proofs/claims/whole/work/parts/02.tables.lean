/-! names and tables of the program, for the small machine -/
def rk0 : String := "TornFringes$Acts"
def tk0 : u_T := fun k => match k with
  | 0 => ("TornFringes$Acts", "count", "I", false)
  | 1 => ("TornFringes$Acts", "next", "I", false)
  | _ => ("TornFringes$Acts", "kept", "[LTornFringes$Whole;", true)
def rk1 : String := "TornFringes$Areas"
def tk1 : u_T := fun k => match k with
  | 0 => ("TornFringes$Areas", "count", "I", false)
  | 1 => ("TornFringes$Areas", "most", "I", false)
  | 2 => ("TornFringes$Areas", "leastPixel", "I", false)
  | 3 => ("TornFringes$Areas", "open", "[Z", true)
  | 4 => ("TornFringes$Areas", "stack", "[I", true)
  | _ => ("TornFringes$Areas", "depth", "I", false)
def rk2 : String := "TornFringes$Chart"
def tk2 : u_T := fun k => match k with
  | 0 => ("TornFringes$Chart", "rows", "I", false)
  | 1 => ("TornFringes$Chart", "cols", "I", false)
  | 2 => ("TornFringes$Chart", "phases", "[I", true)
  | 3 => ("TornFringes$Chart", "grades", "[I", true)
  | 4 => ("TornFringes$Chart", "hidden", "[Z", true)
  | _ => ("TornFringes$Chart", "byHand", "[Z", true)
def rk3 : String := "TornFringes$Front"
def tk3 : u_T := fun k => match k with
  | 0 => ("TornFringes$Front", "barred", "[Z", true)
  | 1 => ("TornFringes$Front", "via", "[I", true)
  | 2 => ("TornFringes$Front", "worth", "[I", true)
  | 3 => ("TornFringes$Front", "waiting", "[I", true)
  | _ => ("TornFringes$Front", "count", "I", false)
def rk4 : String := "TornFringes$Joining"
def tk4 : u_T := fun k => match k with
  | 0 => ("TornFringes$Joining", "count", "I", false)
  | 1 => ("TornFringes$Joining", "fars", "I", false)
  | 2 => ("TornFringes$Joining", "firsts", "[I", true)
  | 3 => ("TornFringes$Joining", "others", "[I", true)
  | _ => ("TornFringes$Joining", "over", "[I", true)
def rk5 : String := "TornFringes$Lay"
def tk5 : u_T := fun k => match k with
  | 0 => ("TornFringes$Lay", "flooding", "Z", false)
  | 1 => ("TornFringes$Lay", "awaited", "I", false)
  | 2 => ("TornFringes$Lay", "laid", "I", false)
  | 3 => ("TornFringes$Lay", "isleCount", "I", false)
  | 4 => ("TornFringes$Lay", "heights", "[I", true)
  | 5 => ("TornFringes$Lay", "froms", "[I", true)
  | 6 => ("TornFringes$Lay", "isles", "[I", true)
  | 7 => ("TornFringes$Lay", "moves", "[I", true)
  | 8 => ("TornFringes$Lay", "starts", "[I", true)
  | _ => ("TornFringes$Lay", "turns", "[I", true)
def rk6 : String := "TornFringes$Log"
def tk6 : u_T := fun k => match k with
  | 0 => ("TornFringes$Log", "total", "I", false)
  | _ => ("TornFringes$Log", "numbers", "[I", true)
def rk7 : String := "TornFringes$Pairing"
def tk7 : u_T := fun k => match k with
  | 0 => ("TornFringes$Pairing", "count", "I", false)
  | 1 => ("TornFringes$Pairing", "rings", "[I", true)
  | 2 => ("TornFringes$Pairing", "charges", "[I", true)
  | 3 => ("TornFringes$Pairing", "mates", "[I", true)
  | _ => ("TornFringes$Pairing", "least", "[I", true)
def rk8 : String := "TornFringes$Seams"
def tk8 : u_T := fun k => match k with
  | 0 => ("TornFringes$Seams", "fitTurns", "I", false)
  | 1 => ("TornFringes$Seams", "fitEdges", "I", false)
  | 2 => ("TornFringes$Seams", "count", "I", false)
  | 3 => ("TornFringes$Seams", "pairs", "[I", true)
  | 4 => ("TornFringes$Seams", "turns", "[I", true)
  | _ => ("TornFringes$Seams", "groups", "[I", true)
def rk9 : String := "TornFringes$Tape"
def tk9 : u_T := fun k => match k with
  | 0 => ("TornFringes$Tape", "length", "I", false)
  | 1 => ("TornFringes$Tape", "rows", "I", false)
  | 2 => ("TornFringes$Tape", "cols", "I", false)
  | _ => ("TornFringes$Tape", "bytes", "[I", true)
def rk10 : String := "TornFringes$Whole"
def tk10 : u_T := fun k => match k with
  | 0 => ("TornFringes$Whole", "chart", "LTornFringes$Chart;", true)
  | 1 => ("TornFringes$Whole", "joining", "LTornFringes$Joining;", true)
  | _ => ("TornFringes$Whole", "lay", "LTornFringes$Lay;", true)
def rk11 : String := "TornFringes"
def tk11 : u_T := fun k => match k with
  | 0 => ("TornFringes", "now", "LTornFringes$Whole;", true)
  | 1 => ("TornFringes", "thought", "LTornFringes$Whole;", true)
  | 2 => ("TornFringes", "acts", "LTornFringes$Acts;", true)
  | 3 => ("TornFringes", "lines", "LTornFringes$Log;", true)
  | 4 => ("TornFringes", "tape", "LTornFringes$Tape;", true)
  | 5 => ("TornFringes", "pairing", "LTornFringes$Pairing;", true)
  | 6 => ("TornFringes", "front", "LTornFringes$Front;", true)
  | 7 => ("TornFringes", "seams", "LTornFringes$Seams;", true)
  | 8 => ("TornFringes", "patches", "LTornFringes$Areas;", true)
  | 9 => ("TornFringes", "drawn", "I", false)
  | 10 => ("TornFringes", "wrongAt", "I", false)
  | 11 => ("TornFringes", "imageOfWhole", "LTornFringes$Whole;", false)
  | 12 => ("TornFringes", "imageOfLines", "LTornFringes$Log;", false)
  | _ => ("TornFringes", "imageOfDrawn", "I", false)
def rk12 : String := "TornFringesModel"
def tk12 : u_T := fun k => match k with
  | 0 => ("TornFringesModel", "told", "I", false)
  | 1 => ("TornFringesModel", "now", "[I", true)
  | 2 => ("TornFringesModel", "aside", "[I", true)
  | 3 => ("TornFringesModel", "state", "I", false)
  | 4 => ("TornFringesModel", "lines", "[I", true)
  | 5 => ("TornFringesModel", "lineMany", "I", false)
  | 6 => ("TornFringesModel", "acts", "[I", true)
  | 7 => ("TornFringesModel", "actMany", "I", false)
  | 8 => ("TornFringesModel", "torn", "[I", true)
  | 9 => ("TornFringesModel", "tornMany", "I", false)
  | 10 => ("TornFringesModel", "partner", "[I", true)
  | 11 => ("TornFringesModel", "least", "[I", true)
  | 12 => ("TornFringesModel", "fitBy", "I", false)
  | 13 => ("TornFringesModel", "fitEdges", "I", false)
  | 14 => ("TornFringesModel", "group", "[I", true)
  | 15 => ("TornFringesModel", "tape", "[I", true)
  | 16 => ("TornFringesModel", "taped", "I", false)
  | 17 => ("TornFringesModel", "faultPlace", "I", false)
  | 18 => ("TornFringesModel", "readPhase", "[I", true)
  | 19 => ("TornFringesModel", "readHidden", "[Z", true)
  | 20 => ("TornFringesModel", "readRows", "I", false)
  | 21 => ("TornFringesModel", "readCols", "I", false)
  | 22 => ("TornFringesModel", "area", "[I", true)
  | 23 => ("TornFringesModel", "hasImage", "Z", false)
  | 24 => ("TornFringesModel", "images", "[I", true)
  | 25 => ("TornFringesModel", "imageLines", "[I", true)
  | 26 => ("TornFringesModel", "imageLineMany", "I", false)
  | _ => ("TornFringesModel", "imageState", "I", false)
def rk13 : String := "java/lang/Math"
def rk14 : String := "java/util/Arrays"
def rk15 : String := "TornFringesLaw"
abbrev cks : List vw_C := [(rk0, tk0, 3), (rk1, tk1, 6), (rk2, tk2, 6), (rk3, tk3, 5), (rk4, tk4, 5), (rk5, tk5, 10), (rk6, tk6, 2), (rk7, tk7, 5), (rk8, tk8, 6), (rk9, tk9, 4), (rk10, tk10, 3), (rk11, tk11, 14), (rk12, tk12, 28)]
def cnl : List String := [rk0, rk1, rk2, rk3, rk4, rk5, rk6, rk7, rk8, rk9, rk10, rk11, rk12, rk13, rk14, rk15]
def cn (c : Nat) : String := cnl.getD c ""
def ftl : List (List Nat) := [[1, 1, 3], [1, 1, 1, 3, 3, 1], [1, 1, 3, 3, 3, 3], [3, 3, 3, 3, 1], [1, 1, 3, 3, 3], [2, 1, 1, 1, 3, 3, 3, 3, 3, 3], [1, 3], [1, 3, 3, 3, 3], [1, 1, 1, 3, 3, 3], [1, 1, 1, 3], [3, 3, 3], [3, 3, 3, 3, 3, 3, 3, 3, 3, 1, 1, 3, 3, 1], [1, 3, 3, 1, 3, 1, 3, 1, 3, 1, 3, 3, 1, 1, 3, 3, 1, 1, 3, 3, 1, 1, 3, 2, 3, 3, 1, 1]]
def ft (c j : Nat) : Nat := (ftl.getD c []).getD j 0
def fnl : List (List Bool) := [[false, false, true], [false, false, false, true, true, false], [false, false, true, true, true, true], [true, true, true, true, false], [false, false, true, true, true], [false, false, false, false, true, true, true, true, true, true], [false, true], [false, true, true, true, true], [false, false, false, true, true, true], [false, false, false, true], [true, true, true], [true, true, true, true, true, true, true, true, true, false, false, false, false, false], [false, true, true, false, true, false, true, false, true, false, true, true, false, false, true, true, false, false, true, true, false, false, true, false, true, true, false, false]]
def fn (c j : Nat) : Bool := (fnl.getD c []).getD j false
abbrev mrow : Type := MethodName × ByteArray × Nat × Option FieldType × Nat × Bool × Nat × Nat × Nat × Nat
def mtab0 : List mrow := [
  (⟨rk0, "<init>", "()V"⟩, prog_2_method_1_code, 1, none, 0, false, 290, 289, 0, 117),
  (⟨rk0, "keep", "(LTornFringes$Whole;)V"⟩, prog_2_method_2_code, 2, none, 0, false, 497, 495, 496, 117),
  (⟨rk0, "takeBack", "(LTornFringes$Whole;)Z"⟩, prog_2_method_3_code, 3, some .boolean, 0, false, 1154, 1152, 1153, 117),
  (⟨rk1, "<init>", "()V"⟩, prog_3_method_1_code, 1, none, 1, false, 420, 419, 0, 123),
  (⟨rk1, "find", "(LTornFringes$Chart;LTornFringes$Lay;I)V"⟩, prog_3_method_2_code, 6, none, 1, false, 1101, 1099, 1100, 123),
  (⟨rk1, "clearFrom", "(LTornFringes$Chart;I)I"⟩, prog_3_method_3_code, 7, some .int, 1, false, 1107, 1106, 24, 123),
  (⟨rk1, "push", "(I)V"⟩, prog_3_method_4_code, 2, none, 1, false, 1111, 1110, 25, 123),
  (⟨rk2, "<init>", "()V"⟩, prog_4_method_1_code, 1, none, 2, false, 141, 140, 0, 113),
  (⟨rk2, "reset", "(II)V"⟩, prog_4_method_2_code, 4, none, 2, false, 146, 144, 145, 113),
  (⟨rk2, "copyFrom", "(LTornFringes$Chart;)V"⟩, prog_4_method_3_code, 2, none, 2, false, 508, 506, 507, 113),
  (⟨rk2, "pixels", "()I"⟩, prog_4_method_4_code, 1, some .int, 2, false, 550, 548, 549, 113),
  (⟨rk2, "rowOf", "(I)I"⟩, prog_4_method_5_code, 2, some .int, 2, false, 580, 578, 579, 113),
  (⟨rk2, "colOf", "(I)I"⟩, prog_4_method_6_code, 2, some .int, 2, false, 584, 582, 583, 113),
  (⟨rk2, "hasPixel", "(I)Z"⟩, prog_4_method_7_code, 2, some .boolean, 2, false, 546, 544, 545, 113),
  (⟨rk2, "hasEdge", "(I)Z"⟩, prog_4_method_8_code, 3, some .boolean, 2, false, 739, 737, 738, 113),
  (⟨rk2, "hasRing", "(I)Z"⟩, prog_4_method_9_code, 2, some .boolean, 2, false, 575, 573, 574, 113),
  (⟨rk2, "tail", "(I)I"⟩, prog_4_method_10_code, 2, some .int, 2, false, 771, 769, 770, 113),
  (⟨rk2, "tip", "(I)I"⟩, prog_4_method_11_code, 2, some .int, 2, false, 775, 773, 774, 113),
  (⟨rk2, "isShut", "(I)Z"⟩, prog_4_method_12_code, 2, some .boolean, 2, false, 767, 765, 766, 113),
  (⟨rk2, "wrapped", "(I)I"⟩, prog_4_method_13_code, 2, some .int, 2, true, 553, 552, 0, 113),
  (⟨rk2, "stepFrom", "(II)I"⟩, prog_4_method_14_code, 3, some .int, 2, false, 592, 590, 591, 113),
  (⟨rk2, "stepOver", "(I)I"⟩, prog_4_method_15_code, 2, some .int, 2, false, 991, 989, 990, 113),
  (⟨rk2, "beside", "(II)I"⟩, prog_4_method_16_code, 3, some .int, 2, false, 606, 604, 605, 113),
  (⟨rk2, "edgeAt", "(II)I"⟩, prog_4_method_17_code, 3, some .int, 2, false, 797, 795, 796, 113),
  (⟨rk2, "countHidden", "()I"⟩, prog_4_method_18_code, 3, some .int, 2, false, 753, 751, 752, 113),
  (⟨rk2, "chargeOf", "(I)I"⟩, prog_4_method_19_code, 6, some .int, 2, false, 588, 586, 587, 113),
  (⟨rk2, "chargesTogether", "()I"⟩, prog_4_method_20_code, 3, some .int, 2, false, 1191, 1189, 1190, 113),
  (⟨rk2, "farBetween", "(II)I"⟩, prog_4_method_21_code, 3, some .int, 2, false, 620, 618, 619, 113),
  (⟨rk2, "farToBorder", "(I)I"⟩, prog_4_method_22_code, 5, some .int, 2, false, 667, 665, 666, 113),
  (⟨rk2, "farOf", "(II)I"⟩, prog_4_method_23_code, 3, some .int, 2, false, 704, 702, 703, 113),
  (⟨rk2, "gradeBySteps", "(I)I"⟩, prog_4_method_24_code, 6, some .int, 2, false, 602, 600, 601, 113),
  (⟨rk2, "hidesOnLoop", "(IIII)Z"⟩, prog_4_method_25_code, 6, some .boolean, 2, false, 1028, 1026, 1027, 113),
  (⟨rk2, "stepsRound", "(IIII)I"⟩, prog_4_method_26_code, 9, some .int, 2, false, 1032, 1030, 1031, 113),
  (⟨rk3, "<init>", "()V"⟩, prog_5_method_1_code, 1, none, 3, false, 369, 368, 0, 121),
  (⟨rk3, "bar", "(LTornFringes$Whole;)V"⟩, prog_5_method_2_code, 3, none, 3, false, 761, 759, 760, 121),
  (⟨rk3, "gather", "(LTornFringes$Whole;)V"⟩, prog_5_method_3_code, 3, none, 3, false, 783, 781, 782, 121),
  (⟨rk3, "spread", "(LTornFringes$Chart;LTornFringes$Lay;I)V"⟩, prog_5_method_4_code, 6, none, 3, false, 792, 790, 791, 121),
  (⟨rk3, "offer", "(III)V"⟩, prog_5_method_5_code, 4, none, 3, false, 802, 801, 10, 121),
  (⟨rk3, "takeBest", "()I"⟩, prog_5_method_6_code, 3, some .int, 3, false, 810, 808, 809, 121),
  (⟨rk3, "isBetter", "(II)Z"⟩, prog_5_method_7_code, 3, some .boolean, 3, false, 814, 813, 11, 121),
  (⟨rk4, "<init>", "()V"⟩, prog_6_method_1_code, 1, none, 4, false, 191, 190, 0, 114),
  (⟨rk4, "clear", "()V"⟩, prog_6_method_2_code, 1, none, 4, false, 533, 531, 532, 114),
  (⟨rk4, "copyFrom", "(LTornFringes$Joining;)V"⟩, prog_6_method_3_code, 2, none, 4, false, 515, 513, 514, 114),
  (⟨rk4, "add", "(LTornFringes$Chart;II)V"⟩, prog_6_method_4_code, 4, none, 4, false, 700, 698, 699, 114),
  (⟨rk4, "cutBetween", "(LTornFringes$Chart;II)V"⟩, prog_6_method_5_code, 8, none, 4, false, 725, 724, 9, 114),
  (⟨rk4, "cutToBorder", "(LTornFringes$Chart;I)V"⟩, prog_6_method_6_code, 6, none, 4, false, 710, 709, 6, 114),
  (⟨rk4, "goAlongRow", "(LTornFringes$Chart;III)V"⟩, prog_6_method_7_code, 6, none, 4, false, 721, 720, 8, 114),
  (⟨rk4, "goAlongColumn", "(LTornFringes$Chart;III)V"⟩, prog_6_method_8_code, 6, none, 4, false, 717, 716, 7, 114),
  (⟨rk5, "<init>", "()V"⟩, prog_7_method_1_code, 1, none, 5, false, 219, 218, 0, 115),
  (⟨rk5, "clear", "()V"⟩, prog_7_method_2_code, 1, none, 5, false, 538, 536, 537, 115)]
def mtab1 : List mrow := [
  (⟨rk5, "copyFrom", "(LTornFringes$Lay;)V"⟩, prog_7_method_3_code, 2, none, 5, false, 520, 518, 519, 115),
  (⟨rk5, "start", "(LTornFringes$Chart;)V"⟩, prog_7_method_4_code, 2, none, 5, false, 747, 745, 746, 115),
  (⟨rk5, "advance", "(LTornFringes$Chart;LTornFringes$Front;)V"⟩, prog_7_method_5_code, 4, none, 5, false, 806, 804, 805, 115),
  (⟨rk5, "follow", "(LTornFringes$Chart;II)V"⟩, prog_7_method_6_code, 4, none, 5, false, 818, 817, 12, 115),
  (⟨rk5, "openIsle", "(LTornFringes$Chart;I)V"⟩, prog_7_method_7_code, 3, none, 5, false, 828, 827, 14, 115),
  (⟨rk5, "bestNotLaid", "(LTornFringes$Chart;)I"⟩, prog_7_method_8_code, 4, some .int, 5, false, 823, 822, 13, 115),
  (⟨rk5, "isLaid", "(I)Z"⟩, prog_7_method_9_code, 2, some .boolean, 5, false, 788, 786, 787, 115),
  (⟨rk5, "hasIsle", "(I)Z"⟩, prog_7_method_10_code, 2, some .boolean, 5, false, 856, 854, 855, 115),
  (⟨rk5, "pixelsOf", "(LTornFringes$Chart;I)I"⟩, prog_7_method_11_code, 5, some .int, 5, false, 1040, 1038, 1039, 115),
  (⟨rk5, "depthOf", "(I)I"⟩, prog_7_method_12_code, 4, some .int, 5, false, 978, 976, 977, 115),
  (⟨rk5, "canLift", "(LTornFringes$Chart;II)Z"⟩, prog_7_method_13_code, 7, some .boolean, 5, false, 860, 858, 859, 115),
  (⟨rk5, "raise", "(LTornFringes$Chart;II)V"⟩, prog_7_method_14_code, 5, none, 5, false, 867, 865, 866, 115),
  (⟨rk5, "squareSum", "(LTornFringes$Chart;I)J"⟩, prog_7_method_15_code, 8, some .long, 5, false, 1070, 1068, 1069, 115),
  (⟨rk5, "lowest", "(LTornFringes$Chart;)I"⟩, prog_7_method_16_code, 4, some .int, 5, false, 1085, 1083, 1084, 115),
  (⟨rk5, "highest", "(LTornFringes$Chart;)I"⟩, prog_7_method_17_code, 4, some .int, 5, false, 1089, 1087, 1088, 115),
  (⟨rk5, "isPeak", "(LTornFringes$Chart;I)Z"⟩, prog_7_method_18_code, 5, some .boolean, 5, false, 1120, 1118, 1119, 115),
  (⟨rk5, "otherHeights", "(LTornFringes$Chart;LTornFringes$Lay;)I"⟩, prog_7_method_19_code, 5, some .int, 5, false, 1142, 1140, 1141, 115),
  (⟨rk6, "<init>", "()V"⟩, prog_8_method_1_code, 1, none, 6, false, 309, 308, 0, 118),
  (⟨rk6, "copyFrom", "(LTornFringes$Log;)V"⟩, prog_8_method_2_code, 2, none, 6, false, 1180, 1178, 1179, 118),
  (⟨rk6, "note", "(III)V"⟩, prog_8_method_3_code, 5, none, 6, false, 731, 729, 730, 118),
  (⟨rk6, "has", "(I)Z"⟩, prog_8_method_4_code, 2, some .boolean, 6, false, 1162, 1160, 1161, 118),
  (⟨rk6, "get", "(II)I"⟩, prog_8_method_5_code, 3, some .int, 6, false, 1167, 1165, 1166, 118),
  (⟨rk7, "<init>", "()V"⟩, prog_9_method_1_code, 1, none, 7, false, 345, 344, 0, 120),
  (⟨rk7, "findTorn", "(LTornFringes$Chart;)V"⟩, prog_9_method_2_code, 4, none, 7, false, 570, 568, 569, 120),
  (⟨rk7, "farToTorn", "(LTornFringes$Chart;I)I"⟩, prog_9_method_3_code, 5, some .int, 7, false, 616, 614, 615, 120),
  (⟨rk7, "canPair", "(LTornFringes$Chart;I)Z"⟩, prog_9_method_4_code, 3, some .boolean, 7, false, 650, 648, 649, 120),
  (⟨rk7, "pair", "(LTornFringes$Chart;I)V"⟩, prog_9_method_5_code, 3, none, 7, false, 655, 653, 654, 120),
  (⟨rk7, "tell", "(LTornFringes$Chart;LTornFringes$Joining;)V"⟩, prog_9_method_6_code, 4, none, 7, false, 695, 693, 694, 120),
  (⟨rk7, "pairNearest", "(LTornFringes$Chart;)V"⟩, prog_9_method_7_code, 4, none, 7, false, 659, 658, 2, 120),
  (⟨rk7, "pairAtFar", "(LTornFringes$Chart;II)V"⟩, prog_9_method_8_code, 5, none, 7, false, 663, 662, 3, 120),
  (⟨rk7, "pairLeast", "(LTornFringes$Chart;)V"⟩, prog_9_method_9_code, 5, none, 7, false, 672, 671, 4, 120),
  (⟨rk7, "leastMate", "(LTornFringes$Chart;II)I"⟩, prog_9_method_10_code, 7, some .int, 7, false, 685, 684, 5, 120),
  (⟨rk7, "leastFars", "(LTornFringes$Pairing;LTornFringes$Chart;II)I"⟩, prog_9_method_11_code, 9, some .int, 7, true, 688, 687, 0, 120),
  (⟨rk7, "isIn", "(II)Z"⟩, prog_9_method_12_code, 2, some .boolean, 7, true, 681, 680, 0, 120),
  (⟨rk7, "without", "(II)I"⟩, prog_9_method_13_code, 2, some .int, 7, true, 691, 690, 0, 120),
  (⟨rk8, "<init>", "()V"⟩, prog_10_method_1_code, 1, none, 8, false, 393, 392, 0, 122),
  (⟨rk8, "gather", "(LTornFringes$Chart;LTornFringes$Lay;)V"⟩, prog_10_method_2_code, 4, none, 8, false, 880, 878, 879, 122),
  (⟨rk8, "gatherEdge", "(LTornFringes$Chart;LTornFringes$Lay;II)V"⟩, prog_10_method_3_code, 8, none, 8, false, 888, 887, 16, 122),
  (⟨rk8, "insert", "(II)V"⟩, prog_10_method_4_code, 4, none, 8, false, 902, 901, 17, 122),
  (⟨rk8, "pairOf", "(II)I"⟩, prog_10_method_5_code, 2, some .int, 8, true, 892, 891, 0, 122),
  (⟨rk8, "turnsLacking", "(LTornFringes$Chart;LTornFringes$Lay;II)I"⟩, prog_10_method_6_code, 6, some .int, 8, true, 895, 894, 0, 122),
  (⟨rk8, "findFit", "(II)V"⟩, prog_10_method_7_code, 5, none, 8, false, 1054, 1052, 1053, 122),
  (⟨rk8, "endOfPair", "(II)I"⟩, prog_10_method_8_code, 4, some .int, 8, false, 910, 909, 19, 122),
  (⟨rk8, "fitWithin", "(III)V"⟩, prog_10_method_9_code, 7, none, 8, false, 914, 913, 20, 122),
  (⟨rk8, "isNearer", "(II)Z"⟩, prog_10_method_10_code, 4, some .boolean, 8, true, 917, 916, 0, 122),
  (⟨rk8, "uniteAll", "(LTornFringes$Chart;LTornFringes$Lay;)I"⟩, prog_10_method_11_code, 8, some .int, 8, false, 876, 874, 875, 122),
  (⟨rk8, "findBest", "()I"⟩, prog_10_method_12_code, 6, some .int, 8, false, 906, 905, 18, 122),
  (⟨rk8, "liftGroup", "(LTornFringes$Chart;LTornFringes$Lay;I)Z"⟩, prog_10_method_13_code, 5, some .boolean, 8, false, 922, 921, 21, 122),
  (⟨rk8, "unite", "(LTornFringes$Lay;II)V"⟩, prog_10_method_14_code, 5, none, 8, false, 928, 927, 22, 122),
  (⟨rk9, "<init>", "()V"⟩, prog_11_method_1_code, 1, none, 9, false, 323, 322, 0, 119)]
def mtab2 : List mrow := [
  (⟨rk9, "add", "(I)V"⟩, prog_11_method_2_code, 3, none, 9, false, 936, 934, 935, 119),
  (⟨rk9, "findFault", "()I"⟩, prog_11_method_3_code, 5, some .int, 9, false, 948, 946, 947, 119),
  (⟨rk9, "canEnd", "(II)Z"⟩, prog_11_method_4_code, 2, some .boolean, 9, true, 951, 950, 0, 119),
  (⟨rk9, "canStand", "(II)Z"⟩, prog_11_method_5_code, 4, some .boolean, 9, false, 955, 954, 23, 119),
  (⟨rk9, "digitOf", "(I)I"⟩, prog_11_method_6_code, 1, some .int, 9, true, 958, 957, 0, 119),
  (⟨rk9, "tell", "(LTornFringes$Chart;)V"⟩, prog_11_method_7_code, 4, none, 9, false, 962, 960, 961, 119),
  (⟨rk10, "<init>", "(LTornFringes$Chart;)V"⟩, prog_12_method_1_code, 2, none, 10, false, 185, 184, 0, 112),
  (⟨rk10, "copyFrom", "(LTornFringes$Whole;)V"⟩, prog_12_method_2_code, 2, none, 10, false, 504, 502, 503, 112),
  (⟨rk10, "tellMap", "(II)V"⟩, prog_12_method_3_code, 3, none, 10, false, 528, 526, 527, 112),
  (⟨rk10, "isCut", "(I)Z"⟩, prog_12_method_4_code, 2, some .boolean, 10, false, 779, 777, 778, 112),
  (⟨rk10, "countCut", "()I"⟩, prog_12_method_5_code, 3, some .int, 10, false, 1197, 1195, 1196, 112),
  (⟨rk10, "isJump", "(I)Z"⟩, prog_12_method_6_code, 2, some .boolean, 10, false, 839, 837, 838, 112),
  (⟨rk10, "isTear", "(I)Z"⟩, prog_12_method_7_code, 2, some .boolean, 10, false, 997, 995, 996, 112),
  (⟨rk10, "differs", "(I)Z"⟩, prog_12_method_8_code, 4, some .boolean, 10, false, 844, 843, 15, 112),
  (⟨rk10, "countJumps", "()I"⟩, prog_12_method_9_code, 3, some .int, 10, false, 833, 831, 832, 112),
  (⟨rk10, "countTears", "()I"⟩, prog_12_method_10_code, 3, some .int, 10, false, 1137, 1135, 1136, 112),
  (⟨rk10, "edgesOutOf", "(I)I"⟩, prog_12_method_11_code, 6, some .int, 10, false, 1044, 1042, 1043, 112),
  (⟨rk11, "<init>", "()V"⟩, prog_1_method_1_code, 1, none, 11, false, 131, 130, 0, 111),
  (⟨rk11, "size", "(II)Z"⟩, prog_1_method_2_code, 3, some .boolean, 11, false, 490, 488, 489, 111),
  (⟨rk11, "phase", "(II)I"⟩, prog_1_method_3_code, 3, some .int, 11, false, 542, 540, 541, 111),
  (⟨rk11, "hide", "(IZ)Z"⟩, prog_1_method_4_code, 3, some .boolean, 11, false, 558, 556, 557, 111),
  (⟨rk11, "grade", "(II)Z"⟩, prog_1_method_5_code, 3, some .boolean, 11, false, 562, 560, 561, 111),
  (⟨rk11, "grades", "(I)I"⟩, prog_1_method_6_code, 4, some .int, 11, false, 566, 564, 565, 111),
  (⟨rk11, "ramp", "(II)Z"⟩, prog_1_method_7_code, 5, some .boolean, 11, false, 626, 624, 625, 111),
  (⟨rk11, "noise", "(I)Z"⟩, prog_1_method_8_code, 5, some .boolean, 11, false, 632, 630, 631, 111),
  (⟨rk11, "state", "(I)I"⟩, prog_1_method_9_code, 3, some .int, 11, false, 642, 640, 641, 111),
  (⟨rk11, "join", "(I)I"⟩, prog_1_method_10_code, 2, some .int, 11, false, 646, 644, 645, 111),
  (⟨rk11, "cut", "(IZ)Z"⟩, prog_1_method_11_code, 3, some .boolean, 11, false, 735, 733, 734, 111),
  (⟨rk11, "begin", "()I"⟩, prog_1_method_12_code, 1, some .int, 11, false, 743, 741, 742, 111),
  (⟨rk11, "step", "(I)I"⟩, prog_1_method_13_code, 4, some .int, 11, false, 757, 755, 756, 111),
  (⟨rk11, "lift", "(II)Z"⟩, prog_1_method_14_code, 3, some .boolean, 11, false, 852, 850, 851, 111),
  (⟨rk11, "settle", "()I"⟩, prog_1_method_15_code, 2, some .int, 11, false, 871, 869, 870, 111),
  (⟨rk11, "feed", "(IIIII)I"⟩, prog_1_method_16_code, 6, some .int, 11, false, 932, 930, 931, 111),
  (⟨rk11, "end", "(I)Z"⟩, prog_1_method_17_code, 2, some .boolean, 11, false, 940, 938, 939, 111),
  (⟨rk11, "text", "()I"⟩, prog_1_method_18_code, 1, some .int, 11, false, 944, 942, 943, 111),
  (⟨rk11, "fault", "()I"⟩, prog_1_method_19_code, 1, some .int, 11, false, 969, 967, 968, 111),
  (⟨rk11, "pixel", "(II)I"⟩, prog_1_method_20_code, 4, some .int, 11, false, 973, 971, 972, 111),
  (⟨rk11, "height", "(I)I"⟩, prog_1_method_21_code, 2, some .int, 11, false, 982, 980, 981, 111),
  (⟨rk11, "edge", "(II)I"⟩, prog_1_method_22_code, 4, some .int, 11, false, 987, 985, 986, 111),
  (⟨rk11, "charge", "(I)I"⟩, prog_1_method_23_code, 2, some .int, 11, false, 1003, 1001, 1002, 111),
  (⟨rk11, "torn", "(I)I"⟩, prog_1_method_24_code, 2, some .int, 11, false, 1009, 1007, 1008, 111),
  (⟨rk11, "far", "(II)I"⟩, prog_1_method_25_code, 3, some .int, 11, false, 1013, 1011, 1012, 111),
  (⟨rk11, "joined", "(II)I"⟩, prog_1_method_26_code, 4, some .int, 11, false, 1019, 1017, 1018, 111),
  (⟨rk11, "loop", "(IIII)I"⟩, prog_1_method_27_code, 6, some .int, 11, false, 1024, 1022, 1023, 111),
  (⟨rk11, "island", "(II)I"⟩, prog_1_method_28_code, 3, some .int, 11, false, 1036, 1034, 1035, 111),
  (⟨rk11, "fit", "(III)I"⟩, prog_1_method_29_code, 4, some .int, 11, false, 1048, 1046, 1047, 111),
  (⟨rk11, "sum", "(I)J"⟩, prog_1_method_30_code, 5, some .long, 11, false, 1060, 1058, 1059, 111),
  (⟨rk11, "power", "(IJ)J"⟩, prog_1_method_31_code, 6, some .long, 11, false, 1065, 1063, 1064, 111),
  (⟨rk11, "range", "(I)I"⟩, prog_1_method_32_code, 4, some .int, 11, false, 1081, 1079, 1080, 111),
  (⟨rk11, "between", "(II)I"⟩, prog_1_method_33_code, 5, some .int, 11, false, 1093, 1091, 1092, 111)]
def mtab3 : List mrow := [
  (⟨rk11, "areas", "(II)I"⟩, prog_1_method_34_code, 3, some .int, 11, false, 1097, 1095, 1096, 111),
  (⟨rk11, "peak", "(I)I"⟩, prog_1_method_35_code, 4, some .int, 11, false, 1116, 1114, 1115, 111),
  (⟨rk11, "way", "(II)I"⟩, prog_1_method_36_code, 5, some .int, 11, false, 1125, 1123, 1124, 111),
  (⟨rk11, "would", "(II)I"⟩, prog_1_method_37_code, 3, some .int, 11, false, 1129, 1127, 1128, 111),
  (⟨rk11, "apart", "(I)I"⟩, prog_1_method_38_code, 2, some .int, 11, false, 1146, 1144, 1145, 111),
  (⟨rk11, "undo", "()I"⟩, prog_1_method_39_code, 1, some .int, 11, false, 1150, 1148, 1149, 111),
  (⟨rk11, "log", "(II)I"⟩, prog_1_method_40_code, 3, some .int, 11, false, 1158, 1156, 1157, 111),
  (⟨rk11, "image", "(Z)Z"⟩, prog_1_method_41_code, 2, some .boolean, 11, false, 1171, 1169, 1170, 111),
  (⟨rk11, "look", "(I)I"⟩, prog_1_method_42_code, 2, some .int, 11, false, 1185, 1183, 1184, 111),
  (⟨rk11, "isSide", "(I)Z"⟩, prog_1_method_43_code, 1, some .boolean, 11, true, 493, 492, 0, 111),
  (⟨rk11, "draw", "(I)I"⟩, prog_1_method_44_code, 2, some .int, 11, false, 636, 635, 1, 111),
  (⟨rk11, "gradeBy", "(II)I"⟩, prog_1_method_45_code, 3, some .int, 11, false, 598, 597, 0, 111),
  (⟨rk11, "floodInThought", "()V"⟩, prog_1_method_46_code, 2, none, 11, false, 1133, 1132, 26, 111),
  (⟨rk11, "takeImage", "()V"⟩, prog_1_method_47_code, 1, none, 11, false, 1175, 1174, 27, 111),
  (⟨rk12, "<init>", "()V"⟩, prog_14_method_1_code, 1, none, 12, false, 1202, 1201, 0, 124),
  (⟨rk12, "isIn", "(III)Z"⟩, prog_14_method_3_code, 4, some .boolean, 12, false, 1304, 1303, 29, 124),
  (⟨rk12, "rows", "()I"⟩, prog_14_method_4_code, 1, some .int, 12, false, 1328, 1327, 34, 124),
  (⟨rk12, "cols", "()I"⟩, prog_14_method_5_code, 1, some .int, 12, false, 1332, 1331, 35, 124),
  (⟨rk12, "many", "()I"⟩, prog_14_method_6_code, 1, some .int, 12, false, 1324, 1323, 33, 124),
  (⟨rk12, "isPixel", "(I)Z"⟩, prog_14_method_7_code, 2, some .boolean, 12, false, 1320, 1319, 32, 124),
  (⟨rk12, "phaseOf", "(I)I"⟩, prog_14_method_8_code, 2, some .int, 12, false, 1349, 1348, 39, 124),
  (⟨rk12, "gradeOf", "(I)I"⟩, prog_14_method_9_code, 2, some .int, 12, false, 1536, 1535, 75, 124),
  (⟨rk12, "isHidden", "(I)Z"⟩, prog_14_method_10_code, 2, some .boolean, 12, false, 1357, 1356, 40, 124),
  (⟨rk12, "isLaid", "(I)Z"⟩, prog_14_method_11_code, 2, some .boolean, 12, false, 1500, 1499, 67, 124),
  (⟨rk12, "rowOf", "(I)I"⟩, prog_14_method_12_code, 2, some .int, 12, false, 1381, 1380, 44, 124),
  (⟨rk12, "colOf", "(I)I"⟩, prog_14_method_13_code, 2, some .int, 12, false, 1377, 1376, 43, 124),
  (⟨rk12, "abs", "(I)I"⟩, prog_14_method_14_code, 2, some .int, 12, false, 1389, 1388, 46, 124),
  (⟨rk12, "wrapped", "(J)I"⟩, prog_14_method_15_code, 4, some .int, 12, false, 1344, 1343, 38, 124),
  (⟨rk12, "stepOf", "(II)I"⟩, prog_14_method_16_code, 3, some .int, 12, false, 1385, 1384, 45, 124),
  (⟨rk12, "isEdge", "(I)Z"⟩, prog_14_method_17_code, 2, some .boolean, 12, false, 1488, 1487, 65, 124),
  (⟨rk12, "lesser", "(I)I"⟩, prog_14_method_18_code, 2, some .int, 12, false, 1520, 1519, 71, 124),
  (⟨rk12, "greater", "(I)I"⟩, prog_14_method_19_code, 2, some .int, 12, false, 1524, 1523, 72, 124),
  (⟨rk12, "isShut", "(I)Z"⟩, prog_14_method_20_code, 2, some .boolean, 12, false, 1516, 1515, 70, 124),
  (⟨rk12, "isCut", "(I)Z"⟩, prog_14_method_21_code, 2, some .boolean, 12, false, 1528, 1527, 73, 124),
  (⟨rk12, "gradeOfEdge", "(I)I"⟩, prog_14_method_22_code, 4, some .int, 12, false, 1532, 1531, 74, 124),
  (⟨rk12, "logs", "(III)V"⟩, prog_14_method_23_code, 5, none, 12, false, 1296, 1295, 28, 124),
  (⟨rk12, "keepsAct", "()V"⟩, prog_14_method_24_code, 2, none, 12, false, 1308, 1307, 30, 124),
  (⟨rk12, "clearsFlood", "()V"⟩, prog_14_method_25_code, 2, none, 12, false, 1340, 1339, 37, 124),
  (⟨rk12, "changes", "()V"⟩, prog_14_method_26_code, 1, none, 12, false, 1336, 1335, 36, 124),
  (⟨rk12, "undo", "()I"⟩, prog_14_method_27_code, 2, some .int, 12, false, 1292, 1290, 1291, 124),
  (⟨rk12, "sizes", "(II)V"⟩, prog_14_method_28_code, 4, none, 12, false, 1312, 1311, 31, 124),
  (⟨rk12, "size", "(II)Z"⟩, prog_14_method_29_code, 3, some .boolean, 12, false, 1300, 1298, 1299, 124),
  (⟨rk12, "phase", "(II)I"⟩, prog_14_method_30_code, 3, some .int, 12, false, 1316, 1314, 1315, 124),
  (⟨rk12, "hide", "(IZ)Z"⟩, prog_14_method_31_code, 3, some .boolean, 12, false, 1353, 1351, 1352, 124),
  (⟨rk12, "grade", "(II)Z"⟩, prog_14_method_32_code, 3, some .boolean, 12, false, 1361, 1359, 1360, 124),
  (⟨rk12, "beside", "(II)I"⟩, prog_14_method_33_code, 3, some .int, 12, false, 1373, 1372, 42, 124),
  (⟨rk12, "edgeTo", "(II)I"⟩, prog_14_method_34_code, 3, some .int, 12, false, 1512, 1511, 69, 124),
  (⟨rk12, "gradeBySteps", "(I)I"⟩, prog_14_method_35_code, 6, some .int, 12, false, 1369, 1368, 41, 124),
  (⟨rk12, "farOf", "(II)I"⟩, prog_14_method_36_code, 3, some .int, 12, false, 1405, 1404, 50, 124),
  (⟨rk12, "gradeByTorn", "(I)I"⟩, prog_14_method_37_code, 4, some .int, 12, false, 1393, 1392, 47, 124)]
def mtab4 : List mrow := [
  (⟨rk12, "grades", "(I)I"⟩, prog_14_method_38_code, 5, some .int, 12, false, 1365, 1363, 1364, 124),
  (⟨rk12, "ramp", "(II)Z"⟩, prog_14_method_39_code, 4, some .boolean, 12, false, 1409, 1407, 1408, 124),
  (⟨rk12, "draw", "(I)I"⟩, prog_14_method_40_code, 2, some .int, 12, false, 1417, 1416, 51, 124),
  (⟨rk12, "noise", "(I)Z"⟩, prog_14_method_41_code, 4, some .boolean, 12, false, 1413, 1411, 1412, 124),
  (⟨rk12, "state", "(I)I"⟩, prog_14_method_42_code, 3, some .int, 12, false, 1423, 1421, 1422, 124),
  (⟨rk12, "isRing", "(I)Z"⟩, prog_14_method_43_code, 2, some .boolean, 12, false, 1401, 1400, 49, 124),
  (⟨rk12, "chargeOf", "(I)I"⟩, prog_14_method_44_code, 4, some .int, 12, false, 1397, 1396, 48, 124),
  (⟨rk12, "toSide", "(II)I"⟩, prog_14_method_45_code, 3, some .int, 12, false, 1459, 1458, 59, 124),
  (⟨rk12, "nearestSide", "(I)I"⟩, prog_14_method_46_code, 4, some .int, 12, false, 1455, 1454, 58, 124),
  (⟨rk12, "farToBorder", "(I)I"⟩, prog_14_method_47_code, 2, some .int, 12, false, 1451, 1450, 57, 124),
  (⟨rk12, "laysTorn", "()V"⟩, prog_14_method_48_code, 2, none, 12, false, 1435, 1434, 53, 124),
  (⟨rk12, "areUnlike", "(II)Z"⟩, prog_14_method_49_code, 3, some .boolean, 12, false, 1463, 1462, 60, 124),
  (⟨rk12, "laysLeast", "()V"⟩, prog_14_method_50_code, 6, none, 12, false, 1447, 1446, 56, 124),
  (⟨rk12, "joinsLeast", "()V"⟩, prog_14_method_51_code, 5, none, 12, false, 1443, 1442, 55, 124),
  (⟨rk12, "joinsNearest", "()V"⟩, prog_14_method_52_code, 7, none, 12, false, 1467, 1466, 61, 124),
  (⟨rk12, "cutsOver", "(I)V"⟩, prog_14_method_53_code, 2, none, 12, false, 1476, 1475, 63, 124),
  (⟨rk12, "cutsOut", "(II)V"⟩, prog_14_method_54_code, 7, none, 12, false, 1472, 1471, 62, 124),
  (⟨rk12, "cutsTo", "(II)V"⟩, prog_14_method_55_code, 6, none, 12, false, 1480, 1479, 64, 124),
  (⟨rk12, "joinsBy", "(I)I"⟩, prog_14_method_56_code, 6, some .int, 12, false, 1439, 1438, 54, 124),
  (⟨rk12, "canJoin", "(I)Z"⟩, prog_14_method_57_code, 2, some .boolean, 12, false, 1431, 1430, 52, 124),
  (⟨rk12, "join", "(I)I"⟩, prog_14_method_58_code, 3, some .int, 12, false, 1427, 1425, 1426, 124),
  (⟨rk12, "cut", "(IZ)Z"⟩, prog_14_method_59_code, 3, some .boolean, 12, false, 1484, 1482, 1483, 124),
  (⟨rk12, "toBeLaid", "()I"⟩, prog_14_method_60_code, 3, some .int, 12, false, 1496, 1495, 66, 124),
  (⟨rk12, "lays", "(IIII)V"⟩, prog_14_method_61_code, 5, none, 12, false, 1544, 1543, 77, 124),
  (⟨rk12, "beginsIsland", "()V"⟩, prog_14_method_62_code, 3, none, 12, false, 1540, 1539, 76, 124),
  (⟨rk12, "moves", "()Z"⟩, prog_14_method_63_code, 9, some .boolean, 12, false, 1508, 1507, 68, 124),
  (⟨rk12, "begin", "()I"⟩, prog_14_method_64_code, 2, some .int, 12, false, 1492, 1490, 1491, 124),
  (⟨rk12, "step", "(I)I"⟩, prog_14_method_65_code, 3, some .int, 12, false, 1504, 1502, 1503, 124),
  (⟨rk12, "isWrong", "(I)Z"⟩, prog_14_method_66_code, 4, some .boolean, 12, false, 1560, 1559, 81, 124),
  (⟨rk12, "areLaid", "(I)Z"⟩, prog_14_method_67_code, 2, some .boolean, 12, false, 1556, 1555, 80, 124),
  (⟨rk12, "isJump", "(I)Z"⟩, prog_14_method_68_code, 2, some .boolean, 12, false, 1552, 1551, 79, 124),
  (⟨rk12, "isTear", "(I)Z"⟩, prog_14_method_69_code, 2, some .boolean, 12, false, 1658, 1657, 95, 124),
  (⟨rk12, "jumps", "()I"⟩, prog_14_method_70_code, 3, some .int, 12, false, 1548, 1547, 78, 124),
  (⟨rk12, "tears", "()I"⟩, prog_14_method_71_code, 3, some .int, 12, false, 1754, 1753, 104, 124),
  (⟨rk12, "isIsland", "(I)Z"⟩, prog_14_method_72_code, 2, some .boolean, 12, false, 1568, 1567, 82, 124),
  (⟨rk12, "canLift", "(II)Z"⟩, prog_14_method_73_code, 6, some .boolean, 12, false, 1572, 1571, 83, 124),
  (⟨rk12, "lifts", "(II)V"⟩, prog_14_method_74_code, 4, none, 12, false, 1576, 1575, 84, 124),
  (⟨rk12, "lift", "(II)Z"⟩, prog_14_method_75_code, 3, some .boolean, 12, false, 1564, 1562, 1563, 124),
  (⟨rk12, "lackAt", "(II)I"⟩, prog_14_method_76_code, 5, some .int, 12, false, 1592, 1591, 87, 124),
  (⟨rk12, "isBetween", "(III)Z"⟩, prog_14_method_77_code, 6, some .boolean, 12, false, 1588, 1587, 86, 124),
  (⟨rk12, "isNearer", "(II)Z"⟩, prog_14_method_78_code, 7, some .boolean, 12, false, 1596, 1595, 88, 124),
  (⟨rk12, "fits", "(II)Z"⟩, prog_14_method_79_code, 7, some .boolean, 12, false, 1584, 1583, 85, 124),
  (⟨rk12, "fit", "(III)I"⟩, prog_14_method_80_code, 4, some .int, 12, false, 1580, 1578, 1579, 124),
  (⟨rk12, "settles", "()I"⟩, prog_14_method_81_code, 8, some .int, 12, false, 1605, 1604, 89, 124),
  (⟨rk12, "changesPlaces", "()V"⟩, prog_14_method_82_code, 3, none, 12, false, 1609, 1608, 90, 124),
  (⟨rk12, "settle", "()I"⟩, prog_14_method_83_code, 2, some .int, 12, false, 1601, 1599, 1600, 124),
  (⟨rk12, "types", "(I)V"⟩, prog_14_method_84_code, 3, none, 12, false, 1617, 1616, 91, 124),
  (⟨rk12, "feed", "(IIIII)I"⟩, prog_14_method_85_code, 6, some .int, 12, false, 1613, 1611, 1612, 124),
  (⟨rk12, "end", "(I)Z"⟩, prog_14_method_86_code, 2, some .boolean, 12, false, 1621, 1619, 1620, 124),
  (⟨rk12, "hexOf", "(I)I"⟩, prog_14_method_87_code, 2, some .int, 12, false, 1633, 1632, 93, 124)]
def mtab5 : List mrow := [
  (⟨rk12, "reads", "(I)I"⟩, prog_14_method_88_code, 7, some .int, 12, false, 1629, 1628, 92, 124),
  (⟨rk12, "text", "()I"⟩, prog_14_method_89_code, 3, some .int, 12, false, 1625, 1623, 1624, 124),
  (⟨rk12, "fault", "()I"⟩, prog_14_method_90_code, 1, some .int, 12, false, 1637, 1635, 1636, 124),
  (⟨rk12, "backMany", "(I)I"⟩, prog_14_method_91_code, 4, some .int, 12, false, 1645, 1644, 94, 124),
  (⟨rk12, "pixel", "(II)I"⟩, prog_14_method_92_code, 4, some .int, 12, false, 1641, 1639, 1640, 124),
  (⟨rk12, "height", "(I)I"⟩, prog_14_method_93_code, 2, some .int, 12, false, 1649, 1647, 1648, 124),
  (⟨rk12, "edge", "(II)I"⟩, prog_14_method_94_code, 3, some .int, 12, false, 1654, 1652, 1653, 124),
  (⟨rk12, "charge", "(I)I"⟩, prog_14_method_95_code, 2, some .int, 12, false, 1662, 1660, 1661, 124),
  (⟨rk12, "torn", "(I)I"⟩, prog_14_method_96_code, 2, some .int, 12, false, 1666, 1664, 1665, 124),
  (⟨rk12, "far", "(II)I"⟩, prog_14_method_97_code, 3, some .int, 12, false, 1670, 1668, 1669, 124),
  (⟨rk12, "joined", "(II)I"⟩, prog_14_method_98_code, 3, some .int, 12, false, 1674, 1672, 1673, 124),
  (⟨rk12, "pixelsOf", "(I)I"⟩, prog_14_method_99_code, 4, some .int, 12, false, 1682, 1681, 96, 124),
  (⟨rk12, "edgesOut", "(I)I"⟩, prog_14_method_100_code, 6, some .int, 12, false, 1686, 1685, 97, 124),
  (⟨rk12, "island", "(II)I"⟩, prog_14_method_101_code, 3, some .int, 12, false, 1678, 1676, 1677, 124),
  (⟨rk12, "loop", "(IIII)I"⟩, prog_14_method_102_code, 9, some .int, 12, false, 1690, 1688, 1689, 124),
  (⟨rk12, "sum", "(I)J"⟩, prog_14_method_103_code, 5, some .long, 12, false, 1694, 1692, 1693, 124),
  (⟨rk12, "power", "(IJ)J"⟩, prog_14_method_104_code, 9, some .long, 12, false, 1699, 1697, 1698, 124),
  (⟨rk12, "outmost", "(Z)I"⟩, prog_14_method_105_code, 4, some .int, 12, false, 1710, 1709, 98, 124),
  (⟨rk12, "range", "(I)I"⟩, prog_14_method_106_code, 3, some .int, 12, false, 1706, 1704, 1705, 124),
  (⟨rk12, "between", "(II)I"⟩, prog_14_method_107_code, 5, some .int, 12, false, 1714, 1712, 1713, 124),
  (⟨rk12, "isUp", "(II)Z"⟩, prog_14_method_108_code, 3, some .boolean, 12, false, 1726, 1725, 100, 124),
  (⟨rk12, "laysAreas", "(I)V"⟩, prog_14_method_109_code, 5, none, 12, false, 1722, 1721, 99, 124),
  (⟨rk12, "pixelsIn", "(II)I"⟩, prog_14_method_110_code, 5, some .int, 12, false, 1730, 1729, 101, 124),
  (⟨rk12, "areas", "(II)I"⟩, prog_14_method_111_code, 7, some .int, 12, false, 1718, 1716, 1717, 124),
  (⟨rk12, "isPeak", "(I)Z"⟩, prog_14_method_112_code, 4, some .boolean, 12, false, 1738, 1737, 102, 124),
  (⟨rk12, "peak", "(I)I"⟩, prog_14_method_113_code, 4, some .int, 12, false, 1734, 1732, 1733, 124),
  (⟨rk12, "way", "(II)I"⟩, prog_14_method_114_code, 5, some .int, 12, false, 1742, 1740, 1741, 124),
  (⟨rk12, "floods", "()V"⟩, prog_14_method_115_code, 1, none, 12, false, 1750, 1749, 103, 124),
  (⟨rk12, "othersThan", "([I)I"⟩, prog_14_method_116_code, 4, some .int, 12, false, 1758, 1757, 105, 124),
  (⟨rk12, "would", "(II)I"⟩, prog_14_method_117_code, 5, some .int, 12, false, 1746, 1744, 1745, 124),
  (⟨rk12, "apart", "(I)I"⟩, prog_14_method_118_code, 4, some .int, 12, false, 1762, 1760, 1761, 124),
  (⟨rk12, "log", "(II)I"⟩, prog_14_method_119_code, 3, some .int, 12, false, 1766, 1764, 1765, 124),
  (⟨rk12, "image", "(Z)Z"⟩, prog_14_method_120_code, 3, some .boolean, 12, false, 1770, 1768, 1769, 124),
  (⟨rk12, "sumOf", "(II)I"⟩, prog_14_method_121_code, 5, some .int, 12, false, 1778, 1777, 106, 124),
  (⟨rk12, "charges", "()I"⟩, prog_14_method_122_code, 3, some .int, 12, false, 1782, 1781, 107, 124),
  (⟨rk12, "cuts", "()I"⟩, prog_14_method_123_code, 3, some .int, 12, false, 1786, 1785, 108, 124),
  (⟨rk12, "laidMany", "()I"⟩, prog_14_method_124_code, 3, some .int, 12, false, 1790, 1789, 109, 124),
  (⟨rk12, "look", "(I)I"⟩, prog_14_method_125_code, 2, some .int, 12, false, 1774, 1772, 1773, 124),
  (⟨rk13, "abs", "(I)I"⟩, prog_15_method_59_code, 1, some .int, 13, true, 609, 608, 0, 126),
  (⟨rk13, "abs", "(J)J"⟩, prog_15_method_61_code, 2, some .long, 13, true, 1073, 1072, 0, 126),
  (⟨rk13, "max", "(II)I"⟩, prog_15_method_65_code, 2, some .int, 13, true, 612, 611, 0, 126),
  (⟨rk13, "min", "(II)I"⟩, prog_15_method_69_code, 2, some .int, 13, true, 524, 523, 0, 126),
  (⟨rk14, "rangeCheck", "(III)V"⟩, prog_17_method_30_code, 3, none, 14, true, 678, 677, 0, 116),
  (⟨rk14, "fill", "([II)V"⟩, prog_17_method_103_code, 4, none, 14, true, 223, 222, 0, 116),
  (⟨rk14, "fill", "([IIII)V"⟩, prog_17_method_104_code, 5, none, 14, true, 675, 674, 0, 116),
  (⟨rk15, "law", "([I)Z"⟩, code, 4, some .boolean, 15, true, 0, 0, 0, 0)]
def mtab : List mrow := mtab0 ++ (mtab1 ++ (mtab2 ++ (mtab3 ++ (mtab4 ++ (mtab5)))))
def mrow0 : mrow := (⟨"", "", ""⟩, ⟨#[]⟩, 0, none, 0, false, 0, 0, 0, 0)
def mro (k : Nat) : mrow := mtab.getD k mrow0
def mname (k : Nat) : MethodName := (mro k).1
def mcode (k : Nat) : ByteArray := (mro k).2.1
def mmaxl (k : Nat) : Nat := (mro k).2.2.1
def mret (k : Nat) : Option FieldType := (mro k).2.2.2.1
def mcls (k : Nat) : Nat := (mro k).2.2.2.2.1
def mstat (k : Nat) : Bool := (mro k).2.2.2.2.2.1
abbrev prow : Type := Nat × (Nat × Nat × Nat) × Nat
def ptab0 : List prow := [(3, (7, 0, 0), 291), (9, (5, 10, 3), 292), (11, (3, 0, 2), 297), (17, (1, 0, 1), 296), (21, (5, 2, 6), 498), (23, (4, 7, 0), 499), (24, (4, 106, 1), 500), (27, (4, 107, 1), 501), (31, (1, 0, 0), 294), (34, (4, 291, 2), 522)]
def ptab1 : List prow := [(3, (7, 0, 0), 421), (9, (3, 1, 3), 428), (15, (3, 1, 4), 429), (19, (1, 1, 0), 422), (23, (1, 1, 1), 424), (26, (1, 1, 2), 426), (29, (4, 10, 0), 1102), (35, (4, 56, 1), 1103), (41, (3, 5, 4), 234), (44, (4, 5, 2), 1104), (48, (1, 1, 5), 430), (51, (4, 6, 1), 1108), (55, (4, 22, 2), 1112)]
def ptab2 : List prow := [(3, (7, 0, 0), 142), (9, (3, 2, 2), 153), (15, (3, 2, 3), 157), (18, (3, 2, 4), 161), (22, (3, 2, 5), 165), (25, (4, 8, 2), 143), (29, (1, 2, 0), 147), (33, (1, 2, 1), 150), (36, (6, 0, 0), 509), (42, (4, 10, 0), 547), (46, (4, 12, 1), 581), (50, (4, 11, 1), 577), (53, (4, 13, 1), 576), (57, (4, 16, 1), 768), (60, (4, 17, 1), 772), (63, (4, 19, 1), 593), (66, (4, 20, 2), 589), (70, (4, 15, 1), 1192), (73, (4, 25, 1), 1193), (76, (4, 288, 1), 607), (81, (4, 291, 2), 668), (84, (4, 28, 1), 705), (87, (4, 27, 2), 706), (90, (4, 22, 2), 603), (93, (4, 290, 2), 610)]
def ptab3 : List prow := [(3, (7, 0, 0), 370), (9, (3, 3, 0), 371), (15, (3, 3, 1), 373), (19, (3, 3, 2), 375), (22, (3, 3, 3), 376), (25, (3, 10, 0), 273), (31, (4, 10, 0), 762), (37, (4, 14, 1), 763), (41, (4, 18, 1), 764), (44, (4, 109, 1), 776), (47, (1, 3, 4), 377), (51, (4, 293, 2), 784), (57, (3, 10, 2), 277), (61, (4, 56, 1), 785), (66, (4, 36, 3), 789), (70, (4, 22, 2), 793), (74, (4, 23, 2), 794), (77, (3, 2, 3), 158), (80, (4, 291, 2), 798), (85, (4, 37, 3), 799), (89, (4, 39, 2), 811)]
def ptab4 : List prow := [(3, (7, 0, 0), 192), (9, (3, 4, 2), 197), (15, (3, 4, 3), 199), (18, (3, 4, 4), 201), (21, (1, 4, 0), 193), (25, (1, 4, 1), 195), (28, (4, 293, 2), 534), (34, (6, 0, 0), 516), (40, (4, 29, 2), 701), (46, (4, 45, 2), 707), (50, (4, 44, 3), 722), (54, (4, 11, 1), 711), (58, (4, 12, 1), 712), (61, (4, 291, 2), 726), (66, (4, 290, 2), 727), (69, (4, 46, 4), 718), (73, (4, 47, 4), 714), (76, (4, 28, 1), 713), (79, (1, 2, 0), 148), (82, (1, 2, 1), 151)]
def ptab5 : List prow := [(3, (7, 0, 0), 220), (9, (3, 5, 4), 233), (15, (3, 5, 5), 238), (18, (3, 5, 6), 240), (21, (3, 5, 7), 244), (24, (3, 5, 8), 246), (27, (3, 5, 9), 248), (30, (4, 293, 2), 221), (36, (2, 5, 0), 224), (40, (1, 5, 1), 226), (44, (1, 5, 2), 228), (47, (1, 5, 3), 230), (50, (6, 0, 0), 521), (56, (4, 49, 0), 748), (59, (4, 10, 0), 749), (65, (4, 24, 0), 750), (68, (4, 38, 0), 807), (73, (3, 3, 1), 374), (76, (4, 53, 3), 815), (80, (4, 55, 1), 820), (84, (4, 54, 2), 825), (88, (4, 36, 3), 829), (92, (4, 20, 2), 819), (96, (3, 2, 2), 155), (99, (4, 56, 1), 824), (103, (3, 2, 4), 164), (107, (3, 2, 3), 160), (118, (4, 289, 1), 1071), (132, (4, 22, 2), 1121)]
def ptab6 : List prow := [(3, (7, 0, 0), 310), (9, (3, 6, 1), 313), (15, (1, 6, 0), 311), (19, (6, 0, 0), 1181), (25, (4, 291, 2), 1163)]
def ptab7 : List prow := [(3, (7, 0, 0), 346), (9, (3, 7, 1), 349), (15, (3, 7, 2), 351), (18, (3, 7, 3), 352), (21, (3, 7, 4), 353), (24, (1, 7, 0), 347), (28, (4, 10, 0), 571), (34, (4, 15, 1), 572), (38, (4, 25, 1), 585), (42, (4, 27, 2), 617), (46, (4, 291, 2), 621), (51, (4, 73, 1), 651), (55, (4, 78, 1), 656), (58, (4, 80, 1), 669), (61, (4, 41, 0), 696), (66, (4, 43, 3), 697), (70, (4, 79, 3), 660), (73, (4, 28, 1), 664), (76, (4, 294, 4), 673), (82, (4, 83, 2), 679), (86, (4, 81, 3), 682), (90, (4, 84, 2), 689), (93, (4, 82, 4), 686)]
def ptab8 : List prow := [(5, (7, 0, 0), 394), (11, (3, 8, 3), 400), (17, (3, 8, 4), 401), (20, (3, 8, 5), 402), (23, (1, 8, 2), 399), (27, (4, 10, 0), 881), (33, (4, 14, 1), 882), (37, (4, 16, 1), 883), (41, (4, 17, 1), 884), (44, (4, 87, 4), 885), (48, (4, 56, 1), 889), (53, (3, 5, 6), 241), (56, (4, 89, 2), 890), (60, (4, 90, 4), 893), (64, (4, 88, 2), 899), (68, (4, 20, 2), 896), (71, (3, 5, 4), 235), (77, (4, 291, 2), 1055), (82, (4, 290, 2), 1056), (85, (4, 92, 2), 907), (88, (4, 93, 3), 911), (92, (1, 8, 0), 395), (95, (1, 8, 1), 397), (98, (4, 94, 2), 915), (102, (4, 288, 1), 918), (105, (1, 5, 3), 231), (108, (4, 86, 2), 877), (112, (4, 96, 0), 903), (115, (4, 97, 3), 919), (119, (4, 98, 3), 925), (123, (4, 60, 3), 923), (127, (4, 61, 3), 924)]
def ptab9 : List prow := [(3, (7, 0, 0), 324), (9, (3, 9, 3), 331), (15, (1, 9, 0), 325), (19, (4, 102, 2), 949), (23, (4, 103, 2), 952), (26, (1, 9, 1), 327), (29, (1, 9, 2), 329), (32, (4, 104, 1), 956), (36, (4, 10, 0), 963), (42, (4, 12, 1), 964), (45, (3, 2, 4), 163), (49, (3, 2, 2), 156), (52, (4, 19, 1), 965)]
def ptab10 : List prow := [(3, (7, 0, 0), 186), (9, (3, 10, 0), 271), (15, (5, 4, 5), 187), (17, (4, 40, 0), 189), (18, (3, 10, 1), 274), (22, (5, 5, 10), 215), (24, (4, 48, 0), 217), (25, (3, 10, 2), 276), (29, (4, 9, 1), 505), (35, (4, 42, 1), 512), (38, (4, 50, 1), 517), (41, (4, 8, 2), 529), (45, (4, 41, 0), 530), (48, (4, 49, 0), 535), (49, (3, 2, 5), 166), (53, (3, 4, 4), 202), (57, (4, 10, 0), 834), (61, (4, 109, 1), 840), (65, (4, 113, 1), 841), (68, (3, 5, 6), 242), (71, (4, 16, 1), 845), (75, (4, 17, 1), 846), (78, (4, 56, 1), 847), (81, (3, 5, 4), 236), (84, (4, 20, 2), 848), (88, (4, 14, 1), 835), (91, (4, 111, 1), 836), (94, (4, 112, 1), 1138)]
def ptab11 : List prow := [(3, (7, 0, 0), 132), (9, (5, 10, 3), 135), (11, (5, 2, 6), 137), (13, (4, 7, 0), 139), (14, (4, 106, 1), 183), (17, (3, 11, 0), 444), (21, (3, 10, 0), 272), (25, (3, 11, 1), 445), (28, (5, 0, 3), 286), (30, (4, 0, 0), 288), (31, (3, 11, 2), 446), (35, (5, 6, 2), 305), (37, (4, 67, 0), 307), (38, (3, 11, 3), 447), (42, (5, 9, 4), 319), (44, (4, 99, 0), 321), (45, (3, 11, 4), 448), (49, (5, 7, 5), 341), (51, (4, 72, 0), 343), (52, (3, 11, 5), 449), (56, (5, 3, 5), 365), (58, (4, 33, 0), 367), (59, (3, 11, 6), 450), (63, (5, 8, 6), 389), (65, (4, 85, 0), 391), (66, (3, 11, 7), 451), (70, (5, 1, 6), 416), (72, (4, 3, 0), 418), (73, (3, 11, 8), 452), (77, (1, 11, 10), 454), (81, (4, 159, 1), 491), (85, (4, 1, 1), 494), (89, (4, 108, 2), 525), (93, (4, 13, 1), 543), (96, (3, 2, 2), 154), (100, (4, 19, 1), 551), (104, (3, 10, 2), 278), (108, (4, 49, 0), 554), (113, (3, 2, 4), 162), (117, (3, 2, 3), 159), (120, (4, 73, 1), 567), (123, (4, 10, 0), 594), (127, (4, 161, 2), 595), (131, (4, 11, 1), 627), (134, (4, 12, 1), 628), (137, (4, 160, 1), 633), (140, (1, 11, 9), 453), (143, (4, 75, 2), 647), (147, (4, 76, 2), 652), (151, (3, 10, 1), 275), (155, (4, 77, 2), 692), (159, (1, 7, 0), 348), (162, (1, 4, 1), 196), (167, (4, 69, 3), 728), (171, (4, 14, 1), 736), (174, (3, 2, 5), 167), (177, (4, 51, 1), 744), (180, (1, 5, 1), 227), (183, (2, 5, 0), 225), (187, (4, 34, 1), 758), (190, (4, 35, 1), 780), (193, (1, 5, 3), 232), (196, (4, 52, 2), 803), (200, (3, 5, 8), 247), (203, (4, 114, 0), 830), (206, (4, 57, 1), 853), (209, (4, 60, 3), 857), (213, (4, 61, 3), 864), (217, (4, 50, 1), 872), (221, (4, 95, 2), 873), (225, (1, 9, 0), 326), (228, (4, 100, 1), 933), (232, (4, 101, 0), 945), (235, (1, 9, 1), 328), (238, (1, 9, 2), 330), (241, (4, 105, 1), 959), (243, (4, 56, 1), 974), (246, (3, 5, 5), 239), (249, (3, 5, 6), 243), (252, (4, 59, 1), 975), (255, (3, 5, 7), 245), (259, (3, 5, 4), 237), (262, (4, 21, 1), 988), (265, (4, 18, 1), 992), (268, (3, 4, 4), 203), (271, (4, 111, 1), 993), (274, (4, 112, 1), 994), (277, (4, 16, 1), 998), (280, (4, 17, 1), 999), (283, (4, 291, 2), 622), (288, (4, 15, 1), 1004), (291, (4, 25, 1), 1005), (294, (3, 7, 1), 350), (297, (4, 28, 1), 1014), (300, (4, 27, 2), 1015), (303, (1, 4, 0), 194), (304, (3, 4, 2), 198), (307, (3, 4, 3), 200), (310, (4, 29, 2), 1020), (313, (1, 2, 0), 149), (314, (1, 2, 1), 152), (315, (4, 31, 4), 1025), (319, (4, 32, 4), 1029), (323, (4, 58, 2), 1037), (327, (3, 5, 9), 249), (330, (4, 116, 1), 1041), (334, (4, 86, 2), 1050), (337, (4, 91, 2), 1051), (340, (1, 8, 1), 398), (343, (1, 8, 0), 396), (350, (4, 62, 2), 1067), (358, (4, 63, 1), 1082), (362, (4, 64, 1), 1086), (365, (4, 4, 3), 1098), (369, (1, 1, 0), 423), (370, (1, 1, 1), 425), (373, (1, 1, 2), 427), (376, (4, 65, 2), 1117), (379, (4, 162, 0), 1130), (382, (4, 115, 0), 1134), (385, (4, 66, 2), 1139), (388, (3, 3, 0), 372), (391, (4, 2, 1), 1151), (395, (1, 0, 0), 295), (396, (4, 70, 1), 1159), (399, (4, 71, 2), 1164), (402, (4, 163, 0), 1172), (405, (3, 11, 11), 455), (408, (3, 11, 12), 456), (411, (4, 107, 1), 1176), (413, (4, 68, 1), 1177), (416, (1, 11, 13), 457), (419, (4, 24, 0), 1186), (422, (4, 140, 1), 1187), (425, (4, 26, 0), 1188), (428, (4, 110, 0), 1194), (431, (1, 5, 2), 229), (434, (1, 6, 0), 312), (439, (4, 30, 1), 599), (442, (4, 74, 2), 613)]
def ptab12 : List prow := [(1, (7, 0, 0), 1203), (7, (3, 12, 1), 1205), (13, (3, 12, 2), 1206), (16, (3, 12, 4), 1208), (19, (3, 12, 6), 1210), (22, (3, 12, 8), 1212), (25, (3, 12, 10), 1214), (28, (3, 12, 11), 1215), (31, (3, 12, 14), 1218), (34, (3, 12, 15), 1219), (37, (1, 12, 17), 1221), (41, (3, 12, 18), 1222), (44, (3, 12, 19), 1223), (48, (3, 12, 22), 1226), (51, (3, 12, 24), 1228), (54, (3, 12, 25), 1229), (57, (1, 12, 0), 1204), (60, (4, 166, 0), 1325), (64, (4, 167, 0), 1329), (67, (4, 168, 0), 1321), (72, (4, 170, 1), 1346), (76, (4, 177, 1), 1341), (80, (4, 175, 1), 1374), (83, (4, 174, 1), 1378), (86, (4, 180, 1), 1517), (89, (4, 172, 1), 1354), (93, (4, 181, 1), 1521), (96, (4, 171, 1), 1533), (99, (1, 12, 5), 1209), (102, (1, 12, 7), 1211), (105, (4, 186, 0), 1305), (108, (4, 187, 0), 1337), (111, (4, 185, 3), 1293), (115, (4, 165, 3), 1301), (119, (4, 190, 2), 1309), (123, (4, 169, 1), 1317), (126, (4, 188, 0), 1333), (129, (4, 195, 2), 1370), (133, (4, 178, 2), 1382), (136, (4, 176, 1), 1386), (139, (4, 206, 1), 1394), (142, (4, 198, 2), 1402), (145, (4, 197, 1), 1366), (148, (4, 199, 1), 1390), (152, (1, 12, 3), 1207), (156, (4, 202, 1), 1414), (159, (4, 205, 1), 1398), (162, (4, 207, 2), 1456), (165, (4, 208, 1), 1452), (168, (1, 12, 9), 1213), (171, (4, 209, 1), 1448), (174, (4, 211, 2), 1460), (178, (4, 212, 0), 1444), (182, (4, 215, 1), 1473), (186, (4, 210, 0), 1432), (189, (4, 213, 0), 1440), (192, (4, 214, 0), 1464), (195, (4, 216, 2), 1469), (198, (4, 217, 2), 1477), (201, (4, 219, 1), 1428), (204, (4, 218, 1), 1436), (207, (4, 179, 1), 1485), (210, (4, 173, 1), 1497), (213, (4, 223, 4), 1541), (217, (4, 196, 2), 1509), (220, (4, 182, 1), 1513), (223, (4, 183, 1), 1525), (226, (4, 184, 1), 1529), (229, (4, 224, 0), 1537), (232, (4, 222, 0), 1493), (235, (4, 225, 0), 1505), (239, (4, 232, 0), 1545), (242, (4, 229, 1), 1553), (245, (4, 228, 1), 1557), (248, (4, 230, 1), 1549), (251, (4, 231, 1), 1655), (254, (4, 234, 1), 1565), (257, (4, 235, 2), 1569), (260, (4, 236, 2), 1573), (263, (1, 12, 13), 1217), (266, (4, 239, 3), 1585), (269, (4, 238, 2), 1589), (272, (1, 12, 12), 1216), (275, (4, 240, 2), 1593), (278, (4, 241, 2), 1581), (282, (4, 243, 0), 1602), (285, (4, 244, 0), 1606), (288, (1, 12, 16), 1220), (291, (4, 246, 1), 1614), (294, (1, 12, 20), 1224), (297, (1, 12, 21), 1225), (300, (4, 249, 1), 1630), (303, (4, 250, 1), 1626), (306, (4, 253, 1), 1642), (310, (4, 261, 1), 1679), (313, (4, 262, 1), 1683), (326, (4, 267, 1), 1707), (330, (4, 270, 2), 1723), (333, (4, 271, 1), 1719), (336, (4, 272, 2), 1727), (339, (4, 274, 1), 1735), (342, (4, 277, 0), 1747), (345, (4, 233, 0), 1751), (348, (4, 278, 1), 1755), (352, (2, 12, 23), 1227), (356, (1, 12, 26), 1230), (359, (1, 12, 27), 1231), (362, (4, 283, 2), 1775), (365, (4, 284, 0), 1779), (368, (4, 285, 0), 1783), (371, (4, 286, 0), 1787)]
def ptab13 : List prow := []
def ptab14 : List prow := [(13, (4, 292, 3), 676)]
def ptab15 : List prow := [(7, (5, 11, 14), 127), (9, (4, 117, 0), 129), (10, (5, 12, 28), 1198), (12, (4, 164, 0), 1200), (13, (4, 118, 2), 487), (17, (4, 191, 2), 1297), (18, (4, 119, 2), 539), (22, (4, 192, 2), 1313), (23, (4, 120, 2), 555), (27, (4, 193, 2), 1350), (28, (4, 121, 2), 559), (31, (4, 194, 2), 1358), (32, (4, 122, 1), 563), (36, (4, 200, 1), 1362), (37, (4, 123, 2), 623), (40, (4, 201, 2), 1406), (41, (4, 124, 1), 629), (45, (4, 203, 1), 1410), (46, (4, 125, 1), 639), (49, (4, 204, 1), 1420), (50, (4, 126, 1), 643), (53, (4, 220, 1), 1424), (54, (4, 127, 2), 732), (57, (4, 221, 2), 1481), (58, (4, 128, 0), 740), (62, (4, 226, 0), 1489), (63, (4, 129, 1), 754), (66, (4, 227, 1), 1501), (67, (4, 130, 2), 849), (70, (4, 237, 2), 1561), (71, (4, 131, 0), 868), (74, (4, 245, 0), 1598), (75, (4, 132, 5), 929), (79, (4, 247, 5), 1610), (80, (4, 133, 1), 937), (83, (4, 248, 1), 1618), (84, (4, 134, 0), 941), (87, (4, 251, 0), 1622), (88, (4, 135, 0), 966), (91, (4, 252, 0), 1634), (92, (4, 136, 2), 970), (95, (4, 254, 2), 1638), (96, (4, 137, 1), 979), (99, (4, 255, 1), 1646), (100, (4, 138, 2), 984), (103, (4, 256, 2), 1651), (104, (4, 139, 1), 1000), (107, (4, 257, 1), 1659), (108, (4, 140, 1), 1006), (111, (4, 258, 1), 1663), (112, (4, 141, 2), 1010), (115, (4, 259, 2), 1667), (116, (4, 142, 2), 1016), (119, (4, 260, 2), 1671), (120, (4, 144, 2), 1033), (123, (4, 263, 2), 1675), (124, (4, 145, 3), 1045), (128, (4, 242, 3), 1577), (129, (4, 143, 4), 1021), (133, (4, 264, 4), 1687), (134, (4, 146, 1), 1057), (138, (4, 265, 1), 1691), (141, (4, 147, 2), 1062), (145, (4, 266, 2), 1696), (146, (4, 148, 1), 1078), (149, (4, 268, 1), 1703), (150, (4, 149, 2), 1090), (153, (4, 269, 2), 1711), (154, (4, 150, 2), 1094), (157, (4, 273, 2), 1715), (158, (4, 151, 1), 1113), (161, (4, 275, 1), 1731), (162, (4, 152, 2), 1122), (165, (4, 276, 2), 1739), (166, (4, 153, 2), 1126), (169, (4, 279, 2), 1743), (170, (4, 154, 1), 1143), (173, (4, 280, 1), 1759), (174, (4, 155, 0), 1147), (177, (4, 189, 0), 1289), (178, (4, 156, 2), 1155), (181, (4, 281, 2), 1763), (182, (4, 157, 1), 1168), (186, (4, 282, 1), 1767), (187, (4, 158, 1), 1182), (190, (4, 287, 1), 1771)]
def ptabs : List (List prow) := [ptab0, ptab1, ptab2, ptab3, ptab4, ptab5, ptab6, ptab7, ptab8, ptab9, ptab10, ptab11, ptab12, ptab13, ptab14, ptab15]
def pfind (l : List prow) (idx : Nat) : Option (Nat × Nat × Nat) := (l.find? (fun r => r.1 == idx)).map (fun r => r.2.1)
def pool (c idx : Nat) : Option (Nat × Nat × Nat) := pfind (ptabs.getD c []) idx
def ctabs : List (List (Nat × Int × Nat)) := [[], [], [], [], [], [], [], [], [(76, -2147483648, 898)], [], [], [(437, 1664525, 637), (438, 1013904223, 638), (258, -100000000, 983), (333, -1000000000, 1049)], [(151, 1664525, 1418), (155, 1013904223, 1419), (181, 1000000, 1468), (281, -1000000000, 1597), (309, -100000000, 1650)], [], [], []]
def cst (c idx : Nat) : Option Int := ((ctabs.getD c []).find? (fun r => r.1 == idx)).map (fun r => r.2.1)
def ltabs : List (List (Nat × Int × Nat)) := [[], [], [], [], [], [(110, 255, 861), (114, -2147483648, 862), (116, 2147483647, 863), (124, 3037000499, 1074), (128, 9223372036854775807, 1075), (130, -1, 1076)], [], [], [(74, 255, 897)], [], [], [(346, -1000000000000, 1061), (348, -1, 1066), (356, 9223372036854775807, 1077)], [(70, 255, 1345), (316, -1000000000000, 1695), (318, -1, 1700), (320, 3037000499, 1701), (324, 9223372036854775807, 1702)], [], [], [(139, 4294967295, 1791)]]
def csl (c idx : Nat) : Option Int := ((ltabs.getD c []).find? (fun r => r.1 == idx)).map (fun r => r.2.1)
