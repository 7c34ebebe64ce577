/-! names and tables of the program, for the small machine -/
def rk0 : String := "TornFringes$Acts"
def tk0 : u_T := fun k => match k with
  | 0 => ("TornFringes$Acts", "count", "I", false)
  | 1 => ("TornFringes$Acts", "next", "I", false)
  | _ => ("TornFringes$Acts", "kept", "[LTornFringes$Whole;", true)
def rk1 : String := "TornFringes$Areas"
def tk1 : u_T := fun k => match k with
  | 0 => ("TornFringes$Areas", "count", "I", false)
  | 1 => ("TornFringes$Areas", "most", "I", false)
  | 2 => ("TornFringes$Areas", "leastPixel", "I", false)
  | 3 => ("TornFringes$Areas", "open", "[Z", true)
  | 4 => ("TornFringes$Areas", "stack", "[I", true)
  | _ => ("TornFringes$Areas", "depth", "I", false)
def rk2 : String := "TornFringes$Chart"
def tk2 : u_T := fun k => match k with
  | 0 => ("TornFringes$Chart", "rows", "I", false)
  | 1 => ("TornFringes$Chart", "cols", "I", false)
  | 2 => ("TornFringes$Chart", "phases", "[I", true)
  | 3 => ("TornFringes$Chart", "grades", "[I", true)
  | 4 => ("TornFringes$Chart", "hidden", "[Z", true)
  | _ => ("TornFringes$Chart", "byHand", "[Z", true)
def rk3 : String := "TornFringes$Front"
def tk3 : u_T := fun k => match k with
  | 0 => ("TornFringes$Front", "barred", "[Z", true)
  | 1 => ("TornFringes$Front", "via", "[I", true)
  | 2 => ("TornFringes$Front", "worth", "[I", true)
  | 3 => ("TornFringes$Front", "waiting", "[I", true)
  | _ => ("TornFringes$Front", "count", "I", false)
def rk4 : String := "TornFringes$Joining"
def tk4 : u_T := fun k => match k with
  | 0 => ("TornFringes$Joining", "count", "I", false)
  | 1 => ("TornFringes$Joining", "fars", "I", false)
  | 2 => ("TornFringes$Joining", "firsts", "[I", true)
  | 3 => ("TornFringes$Joining", "others", "[I", true)
  | _ => ("TornFringes$Joining", "over", "[I", true)
def rk5 : String := "TornFringes$Lay"
def tk5 : u_T := fun k => match k with
  | 0 => ("TornFringes$Lay", "flooding", "Z", false)
  | 1 => ("TornFringes$Lay", "awaited", "I", false)
  | 2 => ("TornFringes$Lay", "laid", "I", false)
  | 3 => ("TornFringes$Lay", "isleCount", "I", false)
  | 4 => ("TornFringes$Lay", "heights", "[I", true)
  | 5 => ("TornFringes$Lay", "froms", "[I", true)
  | 6 => ("TornFringes$Lay", "isles", "[I", true)
  | 7 => ("TornFringes$Lay", "moves", "[I", true)
  | 8 => ("TornFringes$Lay", "starts", "[I", true)
  | _ => ("TornFringes$Lay", "turns", "[I", true)
def rk6 : String := "TornFringes$Log"
def tk6 : u_T := fun k => match k with
  | 0 => ("TornFringes$Log", "total", "I", false)
  | _ => ("TornFringes$Log", "numbers", "[I", true)
def rk7 : String := "TornFringes$Pairing"
def tk7 : u_T := fun k => match k with
  | 0 => ("TornFringes$Pairing", "count", "I", false)
  | 1 => ("TornFringes$Pairing", "rings", "[I", true)
  | 2 => ("TornFringes$Pairing", "charges", "[I", true)
  | 3 => ("TornFringes$Pairing", "mates", "[I", true)
  | _ => ("TornFringes$Pairing", "least", "[I", true)
def rk8 : String := "TornFringes$Seams"
def tk8 : u_T := fun k => match k with
  | 0 => ("TornFringes$Seams", "fitTurns", "I", false)
  | 1 => ("TornFringes$Seams", "fitEdges", "I", false)
  | 2 => ("TornFringes$Seams", "count", "I", false)
  | 3 => ("TornFringes$Seams", "pairs", "[I", true)
  | 4 => ("TornFringes$Seams", "turns", "[I", true)
  | _ => ("TornFringes$Seams", "groups", "[I", true)
def rk9 : String := "TornFringes$Tape"
def tk9 : u_T := fun k => match k with
  | 0 => ("TornFringes$Tape", "length", "I", false)
  | 1 => ("TornFringes$Tape", "rows", "I", false)
  | 2 => ("TornFringes$Tape", "cols", "I", false)
  | _ => ("TornFringes$Tape", "bytes", "[I", true)
def rk10 : String := "TornFringes$Whole"
def tk10 : u_T := fun k => match k with
  | 0 => ("TornFringes$Whole", "chart", "LTornFringes$Chart;", true)
  | 1 => ("TornFringes$Whole", "joining", "LTornFringes$Joining;", true)
  | _ => ("TornFringes$Whole", "lay", "LTornFringes$Lay;", true)
def rk11 : String := "TornFringes"
def tk11 : u_T := fun k => match k with
  | 0 => ("TornFringes", "now", "LTornFringes$Whole;", true)
  | 1 => ("TornFringes", "thought", "LTornFringes$Whole;", true)
  | 2 => ("TornFringes", "acts", "LTornFringes$Acts;", true)
  | 3 => ("TornFringes", "lines", "LTornFringes$Log;", true)
  | 4 => ("TornFringes", "tape", "LTornFringes$Tape;", true)
  | 5 => ("TornFringes", "pairing", "LTornFringes$Pairing;", true)
  | 6 => ("TornFringes", "front", "LTornFringes$Front;", true)
  | 7 => ("TornFringes", "seams", "LTornFringes$Seams;", true)
  | 8 => ("TornFringes", "patches", "LTornFringes$Areas;", true)
  | 9 => ("TornFringes", "drawn", "I", false)
  | 10 => ("TornFringes", "wrongAt", "I", false)
  | 11 => ("TornFringes", "imageOfWhole", "LTornFringes$Whole;", false)
  | 12 => ("TornFringes", "imageOfLines", "LTornFringes$Log;", false)
  | _ => ("TornFringes", "imageOfDrawn", "I", false)
def rk12 : String := "TornFringesModel"
def tk12 : u_T := fun k => match k with
  | 0 => ("TornFringesModel", "told", "I", false)
  | 1 => ("TornFringesModel", "now", "[I", true)
  | 2 => ("TornFringesModel", "aside", "[I", true)
  | 3 => ("TornFringesModel", "state", "I", false)
  | 4 => ("TornFringesModel", "lines", "[I", true)
  | 5 => ("TornFringesModel", "lineMany", "I", false)
  | 6 => ("TornFringesModel", "acts", "[I", true)
  | 7 => ("TornFringesModel", "actMany", "I", false)
  | 8 => ("TornFringesModel", "torn", "[I", true)
  | 9 => ("TornFringesModel", "tornMany", "I", false)
  | 10 => ("TornFringesModel", "partner", "[I", true)
  | 11 => ("TornFringesModel", "least", "[I", true)
  | 12 => ("TornFringesModel", "fitBy", "I", false)
  | 13 => ("TornFringesModel", "fitEdges", "I", false)
  | 14 => ("TornFringesModel", "group", "[I", true)
  | 15 => ("TornFringesModel", "tape", "[I", true)
  | 16 => ("TornFringesModel", "taped", "I", false)
  | 17 => ("TornFringesModel", "faultPlace", "I", false)
  | 18 => ("TornFringesModel", "readPhase", "[I", true)
  | 19 => ("TornFringesModel", "readHidden", "[Z", true)
  | 20 => ("TornFringesModel", "readRows", "I", false)
  | 21 => ("TornFringesModel", "readCols", "I", false)
  | 22 => ("TornFringesModel", "area", "[I", true)
  | 23 => ("TornFringesModel", "hasImage", "Z", false)
  | 24 => ("TornFringesModel", "images", "[I", true)
  | 25 => ("TornFringesModel", "imageLines", "[I", true)
  | 26 => ("TornFringesModel", "imageLineMany", "I", false)
  | _ => ("TornFringesModel", "imageState", "I", false)
def rk13 : String := "java/lang/Math"
def rk14 : String := "java/util/Arrays"
def rk15 : String := "TornFringesLaw"
abbrev cks : List vw_C := [(rk0, tk0, 3), (rk1, tk1, 6), (rk2, tk2, 6), (rk3, tk3, 5), (rk4, tk4, 5), (rk5, tk5, 10), (rk6, tk6, 2), (rk7, tk7, 5), (rk8, tk8, 6), (rk9, tk9, 4), (rk10, tk10, 3), (rk11, tk11, 14), (rk12, tk12, 28)]
def cnl : List String := [rk0, rk1, rk2, rk3, rk4, rk5, rk6, rk7, rk8, rk9, rk10, rk11, rk12, rk13, rk14, rk15]
def cn (c : Nat) : String := cnl.getD c ""
def ftl : List (List Nat) := [[1, 1, 3], [1, 1, 1, 3, 3, 1], [1, 1, 3, 3, 3, 3], [3, 3, 3, 3, 1], [1, 1, 3, 3, 3], [2, 1, 1, 1, 3, 3, 3, 3, 3, 3], [1, 3], [1, 3, 3, 3, 3], [1, 1, 1, 3, 3, 3], [1, 1, 1, 3], [3, 3, 3], [3, 3, 3, 3, 3, 3, 3, 3, 3, 1, 1, 3, 3, 1], [1, 3, 3, 1, 3, 1, 3, 1, 3, 1, 3, 3, 1, 1, 3, 3, 1, 1, 3, 3, 1, 1, 3, 2, 3, 3, 1, 1]]
def ft (c j : Nat) : Nat := (ftl.getD c []).getD j 0
def fnl : List (List Bool) := [[false, false, true], [false, false, false, true, true, false], [false, false, true, true, true, true], [true, true, true, true, false], [false, false, true, true, true], [false, false, false, false, true, true, true, true, true, true], [false, true], [false, true, true, true, true], [false, false, false, true, true, true], [false, false, false, true], [true, true, true], [true, true, true, true, true, true, true, true, true, false, false, false, false, false], [false, true, true, false, true, false, true, false, true, false, true, true, false, false, true, true, false, false, true, true, false, false, true, false, true, true, false, false]]
def fn (c j : Nat) : Bool := (fnl.getD c []).getD j false
abbrev mrow : Type := MethodName × ByteArray × Nat × Option FieldType × Nat × Bool × Nat × Nat × Nat × Nat
def mtab0 : List mrow := [
  (⟨rk0, "<init>", "()V"⟩, prog_2_method_1_code, 1, none, 0, false, 1180, 1179, 0, 1007),
  (⟨rk0, "keep", "(LTornFringes$Whole;)V"⟩, prog_2_method_2_code, 2, none, 0, false, 2147, 2145, 2146, 1007),
  (⟨rk0, "takeBack", "(LTornFringes$Whole;)Z"⟩, prog_2_method_3_code, 3, some .boolean, 0, false, 5084, 5082, 5083, 1007),
  (⟨rk1, "<init>", "()V"⟩, prog_3_method_1_code, 1, none, 1, false, 2070, 2069, 0, 1013),
  (⟨rk1, "find", "(LTornFringes$Chart;LTornFringes$Lay;I)V"⟩, prog_3_method_2_code, 6, none, 1, false, 5031, 5029, 5030, 1013),
  (⟨rk1, "clearFrom", "(LTornFringes$Chart;I)I"⟩, prog_3_method_3_code, 7, some .int, 1, false, 5037, 5036, 24, 1013),
  (⟨rk1, "push", "(I)V"⟩, prog_3_method_4_code, 2, none, 1, false, 5041, 5040, 25, 1013),
  (⟨rk2, "<init>", "()V"⟩, prog_4_method_1_code, 1, none, 2, false, 1031, 1030, 0, 1003),
  (⟨rk2, "reset", "(II)V"⟩, prog_4_method_2_code, 4, none, 2, false, 1036, 1034, 1035, 1003),
  (⟨rk2, "copyFrom", "(LTornFringes$Chart;)V"⟩, prog_4_method_3_code, 2, none, 2, false, 2158, 2156, 2157, 1003),
  (⟨rk2, "pixels", "()I"⟩, prog_4_method_4_code, 1, some .int, 2, false, 2200, 2198, 2199, 1003),
  (⟨rk2, "rowOf", "(I)I"⟩, prog_4_method_5_code, 2, some .int, 2, false, 2230, 2228, 2229, 1003),
  (⟨rk2, "colOf", "(I)I"⟩, prog_4_method_6_code, 2, some .int, 2, false, 2234, 2232, 2233, 1003),
  (⟨rk2, "hasPixel", "(I)Z"⟩, prog_4_method_7_code, 2, some .boolean, 2, false, 2196, 2194, 2195, 1003),
  (⟨rk2, "hasEdge", "(I)Z"⟩, prog_4_method_8_code, 3, some .boolean, 2, false, 3149, 3147, 3148, 1003),
  (⟨rk2, "hasRing", "(I)Z"⟩, prog_4_method_9_code, 2, some .boolean, 2, false, 2225, 2223, 2224, 1003),
  (⟨rk2, "tail", "(I)I"⟩, prog_4_method_10_code, 2, some .int, 2, false, 3181, 3179, 3180, 1003),
  (⟨rk2, "tip", "(I)I"⟩, prog_4_method_11_code, 2, some .int, 2, false, 3185, 3183, 3184, 1003),
  (⟨rk2, "isShut", "(I)Z"⟩, prog_4_method_12_code, 2, some .boolean, 2, false, 3177, 3175, 3176, 1003),
  (⟨rk2, "wrapped", "(I)I"⟩, prog_4_method_13_code, 2, some .int, 2, true, 2203, 2202, 0, 1003),
  (⟨rk2, "stepFrom", "(II)I"⟩, prog_4_method_14_code, 3, some .int, 2, false, 3002, 3000, 3001, 1003),
  (⟨rk2, "stepOver", "(I)I"⟩, prog_4_method_15_code, 2, some .int, 2, false, 4161, 4159, 4160, 1003),
  (⟨rk2, "beside", "(II)I"⟩, prog_4_method_16_code, 3, some .int, 2, false, 3016, 3014, 3015, 1003),
  (⟨rk2, "edgeAt", "(II)I"⟩, prog_4_method_17_code, 3, some .int, 2, false, 3207, 3205, 3206, 1003),
  (⟨rk2, "countHidden", "()I"⟩, prog_4_method_18_code, 3, some .int, 2, false, 3163, 3161, 3162, 1003),
  (⟨rk2, "chargeOf", "(I)I"⟩, prog_4_method_19_code, 6, some .int, 2, false, 2238, 2236, 2237, 1003),
  (⟨rk2, "chargesTogether", "()I"⟩, prog_4_method_20_code, 3, some .int, 2, false, 5121, 5119, 5120, 1003),
  (⟨rk2, "farBetween", "(II)I"⟩, prog_4_method_21_code, 3, some .int, 2, false, 3030, 3028, 3029, 1003),
  (⟨rk2, "farToBorder", "(I)I"⟩, prog_4_method_22_code, 5, some .int, 2, false, 3077, 3075, 3076, 1003),
  (⟨rk2, "farOf", "(II)I"⟩, prog_4_method_23_code, 3, some .int, 2, false, 3114, 3112, 3113, 1003),
  (⟨rk2, "gradeBySteps", "(I)I"⟩, prog_4_method_24_code, 6, some .int, 2, false, 3012, 3010, 3011, 1003),
  (⟨rk2, "hidesOnLoop", "(IIII)Z"⟩, prog_4_method_25_code, 6, some .boolean, 2, false, 4198, 4196, 4197, 1003),
  (⟨rk2, "stepsRound", "(IIII)I"⟩, prog_4_method_26_code, 9, some .int, 2, false, 4202, 4200, 4201, 1003),
  (⟨rk3, "<init>", "()V"⟩, prog_5_method_1_code, 1, none, 3, false, 2019, 2018, 0, 1011),
  (⟨rk3, "bar", "(LTornFringes$Whole;)V"⟩, prog_5_method_2_code, 3, none, 3, false, 3171, 3169, 3170, 1011),
  (⟨rk3, "gather", "(LTornFringes$Whole;)V"⟩, prog_5_method_3_code, 3, none, 3, false, 3193, 3191, 3192, 1011),
  (⟨rk3, "spread", "(LTornFringes$Chart;LTornFringes$Lay;I)V"⟩, prog_5_method_4_code, 6, none, 3, false, 3202, 3200, 3201, 1011),
  (⟨rk3, "offer", "(III)V"⟩, prog_5_method_5_code, 4, none, 3, false, 3212, 3211, 10, 1011),
  (⟨rk3, "takeBest", "()I"⟩, prog_5_method_6_code, 3, some .int, 3, false, 3220, 3218, 3219, 1011),
  (⟨rk3, "isBetter", "(II)Z"⟩, prog_5_method_7_code, 3, some .boolean, 3, false, 3224, 3223, 11, 1011),
  (⟨rk4, "<init>", "()V"⟩, prog_6_method_1_code, 1, none, 4, false, 1081, 1080, 0, 1004),
  (⟨rk4, "clear", "()V"⟩, prog_6_method_2_code, 1, none, 4, false, 2183, 2181, 2182, 1004),
  (⟨rk4, "copyFrom", "(LTornFringes$Joining;)V"⟩, prog_6_method_3_code, 2, none, 4, false, 2165, 2163, 2164, 1004),
  (⟨rk4, "add", "(LTornFringes$Chart;II)V"⟩, prog_6_method_4_code, 4, none, 4, false, 3110, 3108, 3109, 1004),
  (⟨rk4, "cutBetween", "(LTornFringes$Chart;II)V"⟩, prog_6_method_5_code, 8, none, 4, false, 3135, 3134, 9, 1004),
  (⟨rk4, "cutToBorder", "(LTornFringes$Chart;I)V"⟩, prog_6_method_6_code, 6, none, 4, false, 3120, 3119, 6, 1004),
  (⟨rk4, "goAlongRow", "(LTornFringes$Chart;III)V"⟩, prog_6_method_7_code, 6, none, 4, false, 3131, 3130, 8, 1004),
  (⟨rk4, "goAlongColumn", "(LTornFringes$Chart;III)V"⟩, prog_6_method_8_code, 6, none, 4, false, 3127, 3126, 7, 1004),
  (⟨rk5, "<init>", "()V"⟩, prog_7_method_1_code, 1, none, 5, false, 1109, 1108, 0, 1005),
  (⟨rk5, "clear", "()V"⟩, prog_7_method_2_code, 1, none, 5, false, 2188, 2186, 2187, 1005)]
def mtab1 : List mrow := [
  (⟨rk5, "copyFrom", "(LTornFringes$Lay;)V"⟩, prog_7_method_3_code, 2, none, 5, false, 2170, 2168, 2169, 1005),
  (⟨rk5, "start", "(LTornFringes$Chart;)V"⟩, prog_7_method_4_code, 2, none, 5, false, 3157, 3155, 3156, 1005),
  (⟨rk5, "advance", "(LTornFringes$Chart;LTornFringes$Front;)V"⟩, prog_7_method_5_code, 4, none, 5, false, 3216, 3214, 3215, 1005),
  (⟨rk5, "follow", "(LTornFringes$Chart;II)V"⟩, prog_7_method_6_code, 4, none, 5, false, 3228, 3227, 12, 1005),
  (⟨rk5, "openIsle", "(LTornFringes$Chart;I)V"⟩, prog_7_method_7_code, 3, none, 5, false, 3238, 3237, 14, 1005),
  (⟨rk5, "bestNotLaid", "(LTornFringes$Chart;)I"⟩, prog_7_method_8_code, 4, some .int, 5, false, 3233, 3232, 13, 1005),
  (⟨rk5, "isLaid", "(I)Z"⟩, prog_7_method_9_code, 2, some .boolean, 5, false, 3198, 3196, 3197, 1005),
  (⟨rk5, "hasIsle", "(I)Z"⟩, prog_7_method_10_code, 2, some .boolean, 5, false, 4026, 4024, 4025, 1005),
  (⟨rk5, "pixelsOf", "(LTornFringes$Chart;I)I"⟩, prog_7_method_11_code, 5, some .int, 5, false, 4210, 4208, 4209, 1005),
  (⟨rk5, "depthOf", "(I)I"⟩, prog_7_method_12_code, 4, some .int, 5, false, 4148, 4146, 4147, 1005),
  (⟨rk5, "canLift", "(LTornFringes$Chart;II)Z"⟩, prog_7_method_13_code, 7, some .boolean, 5, false, 4030, 4028, 4029, 1005),
  (⟨rk5, "raise", "(LTornFringes$Chart;II)V"⟩, prog_7_method_14_code, 5, none, 5, false, 4037, 4035, 4036, 1005),
  (⟨rk5, "squareSum", "(LTornFringes$Chart;I)J"⟩, prog_7_method_15_code, 8, some .long, 5, false, 5000, 4238, 4239, 1005),
  (⟨rk5, "lowest", "(LTornFringes$Chart;)I"⟩, prog_7_method_16_code, 4, some .int, 5, false, 5015, 5013, 5014, 1005),
  (⟨rk5, "highest", "(LTornFringes$Chart;)I"⟩, prog_7_method_17_code, 4, some .int, 5, false, 5019, 5017, 5018, 1005),
  (⟨rk5, "isPeak", "(LTornFringes$Chart;I)Z"⟩, prog_7_method_18_code, 5, some .boolean, 5, false, 5050, 5048, 5049, 1005),
  (⟨rk5, "otherHeights", "(LTornFringes$Chart;LTornFringes$Lay;)I"⟩, prog_7_method_19_code, 5, some .int, 5, false, 5072, 5070, 5071, 1005),
  (⟨rk6, "<init>", "()V"⟩, prog_8_method_1_code, 1, none, 6, false, 1199, 1198, 0, 1008),
  (⟨rk6, "copyFrom", "(LTornFringes$Log;)V"⟩, prog_8_method_2_code, 2, none, 6, false, 5110, 5108, 5109, 1008),
  (⟨rk6, "note", "(III)V"⟩, prog_8_method_3_code, 5, none, 6, false, 3141, 3139, 3140, 1008),
  (⟨rk6, "has", "(I)Z"⟩, prog_8_method_4_code, 2, some .boolean, 6, false, 5092, 5090, 5091, 1008),
  (⟨rk6, "get", "(II)I"⟩, prog_8_method_5_code, 3, some .int, 6, false, 5097, 5095, 5096, 1008),
  (⟨rk7, "<init>", "()V"⟩, prog_9_method_1_code, 1, none, 7, false, 1235, 1234, 0, 1010),
  (⟨rk7, "findTorn", "(LTornFringes$Chart;)V"⟩, prog_9_method_2_code, 4, none, 7, false, 2220, 2218, 2219, 1010),
  (⟨rk7, "farToTorn", "(LTornFringes$Chart;I)I"⟩, prog_9_method_3_code, 5, some .int, 7, false, 3026, 3024, 3025, 1010),
  (⟨rk7, "canPair", "(LTornFringes$Chart;I)Z"⟩, prog_9_method_4_code, 3, some .boolean, 7, false, 3060, 3058, 3059, 1010),
  (⟨rk7, "pair", "(LTornFringes$Chart;I)V"⟩, prog_9_method_5_code, 3, none, 7, false, 3065, 3063, 3064, 1010),
  (⟨rk7, "tell", "(LTornFringes$Chart;LTornFringes$Joining;)V"⟩, prog_9_method_6_code, 4, none, 7, false, 3105, 3103, 3104, 1010),
  (⟨rk7, "pairNearest", "(LTornFringes$Chart;)V"⟩, prog_9_method_7_code, 4, none, 7, false, 3069, 3068, 2, 1010),
  (⟨rk7, "pairAtFar", "(LTornFringes$Chart;II)V"⟩, prog_9_method_8_code, 5, none, 7, false, 3073, 3072, 3, 1010),
  (⟨rk7, "pairLeast", "(LTornFringes$Chart;)V"⟩, prog_9_method_9_code, 5, none, 7, false, 3082, 3081, 4, 1010),
  (⟨rk7, "leastMate", "(LTornFringes$Chart;II)I"⟩, prog_9_method_10_code, 7, some .int, 7, false, 3095, 3094, 5, 1010),
  (⟨rk7, "leastFars", "(LTornFringes$Pairing;LTornFringes$Chart;II)I"⟩, prog_9_method_11_code, 9, some .int, 7, true, 3098, 3097, 0, 1010),
  (⟨rk7, "isIn", "(II)Z"⟩, prog_9_method_12_code, 2, some .boolean, 7, true, 3091, 3090, 0, 1010),
  (⟨rk7, "without", "(II)I"⟩, prog_9_method_13_code, 2, some .int, 7, true, 3101, 3100, 0, 1010),
  (⟨rk8, "<init>", "()V"⟩, prog_10_method_1_code, 1, none, 8, false, 2043, 2042, 0, 1012),
  (⟨rk8, "gather", "(LTornFringes$Chart;LTornFringes$Lay;)V"⟩, prog_10_method_2_code, 4, none, 8, false, 4050, 4048, 4049, 1012),
  (⟨rk8, "gatherEdge", "(LTornFringes$Chart;LTornFringes$Lay;II)V"⟩, prog_10_method_3_code, 8, none, 8, false, 4058, 4057, 16, 1012),
  (⟨rk8, "insert", "(II)V"⟩, prog_10_method_4_code, 4, none, 8, false, 4072, 4071, 17, 1012),
  (⟨rk8, "pairOf", "(II)I"⟩, prog_10_method_5_code, 2, some .int, 8, true, 4062, 4061, 0, 1012),
  (⟨rk8, "turnsLacking", "(LTornFringes$Chart;LTornFringes$Lay;II)I"⟩, prog_10_method_6_code, 6, some .int, 8, true, 4065, 4064, 0, 1012),
  (⟨rk8, "findFit", "(II)V"⟩, prog_10_method_7_code, 5, none, 8, false, 4224, 4222, 4223, 1012),
  (⟨rk8, "endOfPair", "(II)I"⟩, prog_10_method_8_code, 4, some .int, 8, false, 4080, 4079, 19, 1012),
  (⟨rk8, "fitWithin", "(III)V"⟩, prog_10_method_9_code, 7, none, 8, false, 4084, 4083, 20, 1012),
  (⟨rk8, "isNearer", "(II)Z"⟩, prog_10_method_10_code, 4, some .boolean, 8, true, 4087, 4086, 0, 1012),
  (⟨rk8, "uniteAll", "(LTornFringes$Chart;LTornFringes$Lay;)I"⟩, prog_10_method_11_code, 8, some .int, 8, false, 4046, 4044, 4045, 1012),
  (⟨rk8, "findBest", "()I"⟩, prog_10_method_12_code, 6, some .int, 8, false, 4076, 4075, 18, 1012),
  (⟨rk8, "liftGroup", "(LTornFringes$Chart;LTornFringes$Lay;I)Z"⟩, prog_10_method_13_code, 5, some .boolean, 8, false, 4092, 4091, 21, 1012),
  (⟨rk8, "unite", "(LTornFringes$Lay;II)V"⟩, prog_10_method_14_code, 5, none, 8, false, 4098, 4097, 22, 1012),
  (⟨rk9, "<init>", "()V"⟩, prog_11_method_1_code, 1, none, 9, false, 1213, 1212, 0, 1009)]
def mtab2 : List mrow := [
  (⟨rk9, "add", "(I)V"⟩, prog_11_method_2_code, 3, none, 9, false, 4106, 4104, 4105, 1009),
  (⟨rk9, "findFault", "()I"⟩, prog_11_method_3_code, 5, some .int, 9, false, 4118, 4116, 4117, 1009),
  (⟨rk9, "canEnd", "(II)Z"⟩, prog_11_method_4_code, 2, some .boolean, 9, true, 4121, 4120, 0, 1009),
  (⟨rk9, "canStand", "(II)Z"⟩, prog_11_method_5_code, 4, some .boolean, 9, false, 4125, 4124, 23, 1009),
  (⟨rk9, "digitOf", "(I)I"⟩, prog_11_method_6_code, 1, some .int, 9, true, 4128, 4127, 0, 1009),
  (⟨rk9, "tell", "(LTornFringes$Chart;)V"⟩, prog_11_method_7_code, 4, none, 9, false, 4132, 4130, 4131, 1009),
  (⟨rk10, "<init>", "(LTornFringes$Chart;)V"⟩, prog_12_method_1_code, 2, none, 10, false, 1075, 1074, 0, 1002),
  (⟨rk10, "copyFrom", "(LTornFringes$Whole;)V"⟩, prog_12_method_2_code, 2, none, 10, false, 2154, 2152, 2153, 1002),
  (⟨rk10, "tellMap", "(II)V"⟩, prog_12_method_3_code, 3, none, 10, false, 2178, 2176, 2177, 1002),
  (⟨rk10, "isCut", "(I)Z"⟩, prog_12_method_4_code, 2, some .boolean, 10, false, 3189, 3187, 3188, 1002),
  (⟨rk10, "countCut", "()I"⟩, prog_12_method_5_code, 3, some .int, 10, false, 5127, 5125, 5126, 1002),
  (⟨rk10, "isJump", "(I)Z"⟩, prog_12_method_6_code, 2, some .boolean, 10, false, 4009, 4007, 4008, 1002),
  (⟨rk10, "isTear", "(I)Z"⟩, prog_12_method_7_code, 2, some .boolean, 10, false, 4167, 4165, 4166, 1002),
  (⟨rk10, "differs", "(I)Z"⟩, prog_12_method_8_code, 4, some .boolean, 10, false, 4014, 4013, 15, 1002),
  (⟨rk10, "countJumps", "()I"⟩, prog_12_method_9_code, 3, some .int, 10, false, 4003, 4001, 4002, 1002),
  (⟨rk10, "countTears", "()I"⟩, prog_12_method_10_code, 3, some .int, 10, false, 5067, 5065, 5066, 1002),
  (⟨rk10, "edgesOutOf", "(I)I"⟩, prog_12_method_11_code, 6, some .int, 10, false, 4214, 4212, 4213, 1002),
  (⟨rk11, "<init>", "()V"⟩, prog_1_method_1_code, 1, none, 11, false, 1021, 1020, 0, 1001),
  (⟨rk11, "size", "(II)Z"⟩, prog_1_method_2_code, 3, some .boolean, 11, false, 2140, 2138, 2139, 1001),
  (⟨rk11, "phase", "(II)I"⟩, prog_1_method_3_code, 3, some .int, 11, false, 2192, 2190, 2191, 1001),
  (⟨rk11, "hide", "(IZ)Z"⟩, prog_1_method_4_code, 3, some .boolean, 11, false, 2208, 2206, 2207, 1001),
  (⟨rk11, "grade", "(II)Z"⟩, prog_1_method_5_code, 3, some .boolean, 11, false, 2212, 2210, 2211, 1001),
  (⟨rk11, "grades", "(I)I"⟩, prog_1_method_6_code, 4, some .int, 11, false, 2216, 2214, 2215, 1001),
  (⟨rk11, "ramp", "(II)Z"⟩, prog_1_method_7_code, 5, some .boolean, 11, false, 3036, 3034, 3035, 1001),
  (⟨rk11, "noise", "(I)Z"⟩, prog_1_method_8_code, 5, some .boolean, 11, false, 3042, 3040, 3041, 1001),
  (⟨rk11, "state", "(I)I"⟩, prog_1_method_9_code, 3, some .int, 11, false, 3052, 3050, 3051, 1001),
  (⟨rk11, "join", "(I)I"⟩, prog_1_method_10_code, 2, some .int, 11, false, 3056, 3054, 3055, 1001),
  (⟨rk11, "cut", "(IZ)Z"⟩, prog_1_method_11_code, 3, some .boolean, 11, false, 3145, 3143, 3144, 1001),
  (⟨rk11, "begin", "()I"⟩, prog_1_method_12_code, 1, some .int, 11, false, 3153, 3151, 3152, 1001),
  (⟨rk11, "step", "(I)I"⟩, prog_1_method_13_code, 4, some .int, 11, false, 3167, 3165, 3166, 1001),
  (⟨rk11, "lift", "(II)Z"⟩, prog_1_method_14_code, 3, some .boolean, 11, false, 4022, 4020, 4021, 1001),
  (⟨rk11, "settle", "()I"⟩, prog_1_method_15_code, 2, some .int, 11, false, 4041, 4039, 4040, 1001),
  (⟨rk11, "feed", "(IIIII)I"⟩, prog_1_method_16_code, 6, some .int, 11, false, 4102, 4100, 4101, 1001),
  (⟨rk11, "end", "(I)Z"⟩, prog_1_method_17_code, 2, some .boolean, 11, false, 4110, 4108, 4109, 1001),
  (⟨rk11, "text", "()I"⟩, prog_1_method_18_code, 1, some .int, 11, false, 4114, 4112, 4113, 1001),
  (⟨rk11, "fault", "()I"⟩, prog_1_method_19_code, 1, some .int, 11, false, 4139, 4137, 4138, 1001),
  (⟨rk11, "pixel", "(II)I"⟩, prog_1_method_20_code, 4, some .int, 11, false, 4143, 4141, 4142, 1001),
  (⟨rk11, "height", "(I)I"⟩, prog_1_method_21_code, 2, some .int, 11, false, 4152, 4150, 4151, 1001),
  (⟨rk11, "edge", "(II)I"⟩, prog_1_method_22_code, 4, some .int, 11, false, 4157, 4155, 4156, 1001),
  (⟨rk11, "charge", "(I)I"⟩, prog_1_method_23_code, 2, some .int, 11, false, 4173, 4171, 4172, 1001),
  (⟨rk11, "torn", "(I)I"⟩, prog_1_method_24_code, 2, some .int, 11, false, 4179, 4177, 4178, 1001),
  (⟨rk11, "far", "(II)I"⟩, prog_1_method_25_code, 3, some .int, 11, false, 4183, 4181, 4182, 1001),
  (⟨rk11, "joined", "(II)I"⟩, prog_1_method_26_code, 4, some .int, 11, false, 4189, 4187, 4188, 1001),
  (⟨rk11, "loop", "(IIII)I"⟩, prog_1_method_27_code, 6, some .int, 11, false, 4194, 4192, 4193, 1001),
  (⟨rk11, "island", "(II)I"⟩, prog_1_method_28_code, 3, some .int, 11, false, 4206, 4204, 4205, 1001),
  (⟨rk11, "fit", "(III)I"⟩, prog_1_method_29_code, 4, some .int, 11, false, 4218, 4216, 4217, 1001),
  (⟨rk11, "sum", "(I)J"⟩, prog_1_method_30_code, 5, some .long, 11, false, 4230, 4228, 4229, 1001),
  (⟨rk11, "power", "(IJ)J"⟩, prog_1_method_31_code, 6, some .long, 11, false, 4235, 4233, 4234, 1001),
  (⟨rk11, "range", "(I)I"⟩, prog_1_method_32_code, 4, some .int, 11, false, 5011, 5009, 5010, 1001),
  (⟨rk11, "between", "(II)I"⟩, prog_1_method_33_code, 5, some .int, 11, false, 5023, 5021, 5022, 1001)]
def mtab3 : List mrow := [
  (⟨rk11, "areas", "(II)I"⟩, prog_1_method_34_code, 3, some .int, 11, false, 5027, 5025, 5026, 1001),
  (⟨rk11, "peak", "(I)I"⟩, prog_1_method_35_code, 4, some .int, 11, false, 5046, 5044, 5045, 1001),
  (⟨rk11, "way", "(II)I"⟩, prog_1_method_36_code, 5, some .int, 11, false, 5055, 5053, 5054, 1001),
  (⟨rk11, "would", "(II)I"⟩, prog_1_method_37_code, 3, some .int, 11, false, 5059, 5057, 5058, 1001),
  (⟨rk11, "apart", "(I)I"⟩, prog_1_method_38_code, 2, some .int, 11, false, 5076, 5074, 5075, 1001),
  (⟨rk11, "undo", "()I"⟩, prog_1_method_39_code, 1, some .int, 11, false, 5080, 5078, 5079, 1001),
  (⟨rk11, "log", "(II)I"⟩, prog_1_method_40_code, 3, some .int, 11, false, 5088, 5086, 5087, 1001),
  (⟨rk11, "image", "(Z)Z"⟩, prog_1_method_41_code, 2, some .boolean, 11, false, 5101, 5099, 5100, 1001),
  (⟨rk11, "look", "(I)I"⟩, prog_1_method_42_code, 2, some .int, 11, false, 5115, 5113, 5114, 1001),
  (⟨rk11, "isSide", "(I)Z"⟩, prog_1_method_43_code, 1, some .boolean, 11, true, 2143, 2142, 0, 1001),
  (⟨rk11, "draw", "(I)I"⟩, prog_1_method_44_code, 2, some .int, 11, false, 3046, 3045, 1, 1001),
  (⟨rk11, "gradeBy", "(II)I"⟩, prog_1_method_45_code, 3, some .int, 11, false, 3008, 3007, 0, 1001),
  (⟨rk11, "floodInThought", "()V"⟩, prog_1_method_46_code, 2, none, 11, false, 5063, 5062, 26, 1001),
  (⟨rk11, "takeImage", "()V"⟩, prog_1_method_47_code, 1, none, 11, false, 5105, 5104, 27, 1001),
  (⟨rk12, "<init>", "()V"⟩, prog_14_method_1_code, 1, none, 12, false, 5132, 5131, 0, 1014),
  (⟨rk12, "isIn", "(III)Z"⟩, prog_14_method_3_code, 4, some .boolean, 12, false, 5234, 5233, 29, 1014),
  (⟨rk12, "rows", "()I"⟩, prog_14_method_4_code, 1, some .int, 12, false, 6018, 6017, 34, 1014),
  (⟨rk12, "cols", "()I"⟩, prog_14_method_5_code, 1, some .int, 12, false, 6022, 6021, 35, 1014),
  (⟨rk12, "many", "()I"⟩, prog_14_method_6_code, 1, some .int, 12, false, 6014, 6013, 33, 1014),
  (⟨rk12, "isPixel", "(I)Z"⟩, prog_14_method_7_code, 2, some .boolean, 12, false, 6010, 6009, 32, 1014),
  (⟨rk12, "phaseOf", "(I)I"⟩, prog_14_method_8_code, 2, some .int, 12, false, 6039, 6038, 39, 1014),
  (⟨rk12, "gradeOf", "(I)I"⟩, prog_14_method_9_code, 2, some .int, 12, false, 6226, 6225, 75, 1014),
  (⟨rk12, "isHidden", "(I)Z"⟩, prog_14_method_10_code, 2, some .boolean, 12, false, 6047, 6046, 40, 1014),
  (⟨rk12, "isLaid", "(I)Z"⟩, prog_14_method_11_code, 2, some .boolean, 12, false, 6190, 6189, 67, 1014),
  (⟨rk12, "rowOf", "(I)I"⟩, prog_14_method_12_code, 2, some .int, 12, false, 6071, 6070, 44, 1014),
  (⟨rk12, "colOf", "(I)I"⟩, prog_14_method_13_code, 2, some .int, 12, false, 6067, 6066, 43, 1014),
  (⟨rk12, "abs", "(I)I"⟩, prog_14_method_14_code, 2, some .int, 12, false, 6079, 6078, 46, 1014),
  (⟨rk12, "wrapped", "(J)I"⟩, prog_14_method_15_code, 4, some .int, 12, false, 6034, 6033, 38, 1014),
  (⟨rk12, "stepOf", "(II)I"⟩, prog_14_method_16_code, 3, some .int, 12, false, 6075, 6074, 45, 1014),
  (⟨rk12, "isEdge", "(I)Z"⟩, prog_14_method_17_code, 2, some .boolean, 12, false, 6178, 6177, 65, 1014),
  (⟨rk12, "lesser", "(I)I"⟩, prog_14_method_18_code, 2, some .int, 12, false, 6210, 6209, 71, 1014),
  (⟨rk12, "greater", "(I)I"⟩, prog_14_method_19_code, 2, some .int, 12, false, 6214, 6213, 72, 1014),
  (⟨rk12, "isShut", "(I)Z"⟩, prog_14_method_20_code, 2, some .boolean, 12, false, 6206, 6205, 70, 1014),
  (⟨rk12, "isCut", "(I)Z"⟩, prog_14_method_21_code, 2, some .boolean, 12, false, 6218, 6217, 73, 1014),
  (⟨rk12, "gradeOfEdge", "(I)I"⟩, prog_14_method_22_code, 4, some .int, 12, false, 6222, 6221, 74, 1014),
  (⟨rk12, "logs", "(III)V"⟩, prog_14_method_23_code, 5, none, 12, false, 5226, 5225, 28, 1014),
  (⟨rk12, "keepsAct", "()V"⟩, prog_14_method_24_code, 2, none, 12, false, 5238, 5237, 30, 1014),
  (⟨rk12, "clearsFlood", "()V"⟩, prog_14_method_25_code, 2, none, 12, false, 6030, 6029, 37, 1014),
  (⟨rk12, "changes", "()V"⟩, prog_14_method_26_code, 1, none, 12, false, 6026, 6025, 36, 1014),
  (⟨rk12, "undo", "()I"⟩, prog_14_method_27_code, 2, some .int, 12, false, 5222, 5220, 5221, 1014),
  (⟨rk12, "sizes", "(II)V"⟩, prog_14_method_28_code, 4, none, 12, false, 6002, 6001, 31, 1014),
  (⟨rk12, "size", "(II)Z"⟩, prog_14_method_29_code, 3, some .boolean, 12, false, 5230, 5228, 5229, 1014),
  (⟨rk12, "phase", "(II)I"⟩, prog_14_method_30_code, 3, some .int, 12, false, 6006, 6004, 6005, 1014),
  (⟨rk12, "hide", "(IZ)Z"⟩, prog_14_method_31_code, 3, some .boolean, 12, false, 6043, 6041, 6042, 1014),
  (⟨rk12, "grade", "(II)Z"⟩, prog_14_method_32_code, 3, some .boolean, 12, false, 6051, 6049, 6050, 1014),
  (⟨rk12, "beside", "(II)I"⟩, prog_14_method_33_code, 3, some .int, 12, false, 6063, 6062, 42, 1014),
  (⟨rk12, "edgeTo", "(II)I"⟩, prog_14_method_34_code, 3, some .int, 12, false, 6202, 6201, 69, 1014),
  (⟨rk12, "gradeBySteps", "(I)I"⟩, prog_14_method_35_code, 6, some .int, 12, false, 6059, 6058, 41, 1014),
  (⟨rk12, "farOf", "(II)I"⟩, prog_14_method_36_code, 3, some .int, 12, false, 6095, 6094, 50, 1014),
  (⟨rk12, "gradeByTorn", "(I)I"⟩, prog_14_method_37_code, 4, some .int, 12, false, 6083, 6082, 47, 1014)]
def mtab4 : List mrow := [
  (⟨rk12, "grades", "(I)I"⟩, prog_14_method_38_code, 5, some .int, 12, false, 6055, 6053, 6054, 1014),
  (⟨rk12, "ramp", "(II)Z"⟩, prog_14_method_39_code, 4, some .boolean, 12, false, 6099, 6097, 6098, 1014),
  (⟨rk12, "draw", "(I)I"⟩, prog_14_method_40_code, 2, some .int, 12, false, 6107, 6106, 51, 1014),
  (⟨rk12, "noise", "(I)Z"⟩, prog_14_method_41_code, 4, some .boolean, 12, false, 6103, 6101, 6102, 1014),
  (⟨rk12, "state", "(I)I"⟩, prog_14_method_42_code, 3, some .int, 12, false, 6113, 6111, 6112, 1014),
  (⟨rk12, "isRing", "(I)Z"⟩, prog_14_method_43_code, 2, some .boolean, 12, false, 6091, 6090, 49, 1014),
  (⟨rk12, "chargeOf", "(I)I"⟩, prog_14_method_44_code, 4, some .int, 12, false, 6087, 6086, 48, 1014),
  (⟨rk12, "toSide", "(II)I"⟩, prog_14_method_45_code, 3, some .int, 12, false, 6149, 6148, 59, 1014),
  (⟨rk12, "nearestSide", "(I)I"⟩, prog_14_method_46_code, 4, some .int, 12, false, 6145, 6144, 58, 1014),
  (⟨rk12, "farToBorder", "(I)I"⟩, prog_14_method_47_code, 2, some .int, 12, false, 6141, 6140, 57, 1014),
  (⟨rk12, "laysTorn", "()V"⟩, prog_14_method_48_code, 2, none, 12, false, 6125, 6124, 53, 1014),
  (⟨rk12, "areUnlike", "(II)Z"⟩, prog_14_method_49_code, 3, some .boolean, 12, false, 6153, 6152, 60, 1014),
  (⟨rk12, "laysLeast", "()V"⟩, prog_14_method_50_code, 6, none, 12, false, 6137, 6136, 56, 1014),
  (⟨rk12, "joinsLeast", "()V"⟩, prog_14_method_51_code, 5, none, 12, false, 6133, 6132, 55, 1014),
  (⟨rk12, "joinsNearest", "()V"⟩, prog_14_method_52_code, 7, none, 12, false, 6157, 6156, 61, 1014),
  (⟨rk12, "cutsOver", "(I)V"⟩, prog_14_method_53_code, 2, none, 12, false, 6166, 6165, 63, 1014),
  (⟨rk12, "cutsOut", "(II)V"⟩, prog_14_method_54_code, 7, none, 12, false, 6162, 6161, 62, 1014),
  (⟨rk12, "cutsTo", "(II)V"⟩, prog_14_method_55_code, 6, none, 12, false, 6170, 6169, 64, 1014),
  (⟨rk12, "joinsBy", "(I)I"⟩, prog_14_method_56_code, 6, some .int, 12, false, 6129, 6128, 54, 1014),
  (⟨rk12, "canJoin", "(I)Z"⟩, prog_14_method_57_code, 2, some .boolean, 12, false, 6121, 6120, 52, 1014),
  (⟨rk12, "join", "(I)I"⟩, prog_14_method_58_code, 3, some .int, 12, false, 6117, 6115, 6116, 1014),
  (⟨rk12, "cut", "(IZ)Z"⟩, prog_14_method_59_code, 3, some .boolean, 12, false, 6174, 6172, 6173, 1014),
  (⟨rk12, "toBeLaid", "()I"⟩, prog_14_method_60_code, 3, some .int, 12, false, 6186, 6185, 66, 1014),
  (⟨rk12, "lays", "(IIII)V"⟩, prog_14_method_61_code, 5, none, 12, false, 6234, 6233, 77, 1014),
  (⟨rk12, "beginsIsland", "()V"⟩, prog_14_method_62_code, 3, none, 12, false, 6230, 6229, 76, 1014),
  (⟨rk12, "moves", "()Z"⟩, prog_14_method_63_code, 9, some .boolean, 12, false, 6198, 6197, 68, 1014),
  (⟨rk12, "begin", "()I"⟩, prog_14_method_64_code, 2, some .int, 12, false, 6182, 6180, 6181, 1014),
  (⟨rk12, "step", "(I)I"⟩, prog_14_method_65_code, 3, some .int, 12, false, 6194, 6192, 6193, 1014),
  (⟨rk12, "isWrong", "(I)Z"⟩, prog_14_method_66_code, 4, some .boolean, 12, false, 7010, 7009, 81, 1014),
  (⟨rk12, "areLaid", "(I)Z"⟩, prog_14_method_67_code, 2, some .boolean, 12, false, 7006, 7005, 80, 1014),
  (⟨rk12, "isJump", "(I)Z"⟩, prog_14_method_68_code, 2, some .boolean, 12, false, 7002, 7001, 79, 1014),
  (⟨rk12, "isTear", "(I)Z"⟩, prog_14_method_69_code, 2, some .boolean, 12, false, 7108, 7107, 95, 1014),
  (⟨rk12, "jumps", "()I"⟩, prog_14_method_70_code, 3, some .int, 12, false, 6238, 6237, 78, 1014),
  (⟨rk12, "tears", "()I"⟩, prog_14_method_71_code, 3, some .int, 12, false, 7204, 7203, 104, 1014),
  (⟨rk12, "isIsland", "(I)Z"⟩, prog_14_method_72_code, 2, some .boolean, 12, false, 7018, 7017, 82, 1014),
  (⟨rk12, "canLift", "(II)Z"⟩, prog_14_method_73_code, 6, some .boolean, 12, false, 7022, 7021, 83, 1014),
  (⟨rk12, "lifts", "(II)V"⟩, prog_14_method_74_code, 4, none, 12, false, 7026, 7025, 84, 1014),
  (⟨rk12, "lift", "(II)Z"⟩, prog_14_method_75_code, 3, some .boolean, 12, false, 7014, 7012, 7013, 1014),
  (⟨rk12, "lackAt", "(II)I"⟩, prog_14_method_76_code, 5, some .int, 12, false, 7042, 7041, 87, 1014),
  (⟨rk12, "isBetween", "(III)Z"⟩, prog_14_method_77_code, 6, some .boolean, 12, false, 7038, 7037, 86, 1014),
  (⟨rk12, "isNearer", "(II)Z"⟩, prog_14_method_78_code, 7, some .boolean, 12, false, 7046, 7045, 88, 1014),
  (⟨rk12, "fits", "(II)Z"⟩, prog_14_method_79_code, 7, some .boolean, 12, false, 7034, 7033, 85, 1014),
  (⟨rk12, "fit", "(III)I"⟩, prog_14_method_80_code, 4, some .int, 12, false, 7030, 7028, 7029, 1014),
  (⟨rk12, "settles", "()I"⟩, prog_14_method_81_code, 8, some .int, 12, false, 7055, 7054, 89, 1014),
  (⟨rk12, "changesPlaces", "()V"⟩, prog_14_method_82_code, 3, none, 12, false, 7059, 7058, 90, 1014),
  (⟨rk12, "settle", "()I"⟩, prog_14_method_83_code, 2, some .int, 12, false, 7051, 7049, 7050, 1014),
  (⟨rk12, "types", "(I)V"⟩, prog_14_method_84_code, 3, none, 12, false, 7067, 7066, 91, 1014),
  (⟨rk12, "feed", "(IIIII)I"⟩, prog_14_method_85_code, 6, some .int, 12, false, 7063, 7061, 7062, 1014),
  (⟨rk12, "end", "(I)Z"⟩, prog_14_method_86_code, 2, some .boolean, 12, false, 7071, 7069, 7070, 1014),
  (⟨rk12, "hexOf", "(I)I"⟩, prog_14_method_87_code, 2, some .int, 12, false, 7083, 7082, 93, 1014)]
def mtab5 : List mrow := [
  (⟨rk12, "reads", "(I)I"⟩, prog_14_method_88_code, 7, some .int, 12, false, 7079, 7078, 92, 1014),
  (⟨rk12, "text", "()I"⟩, prog_14_method_89_code, 3, some .int, 12, false, 7075, 7073, 7074, 1014),
  (⟨rk12, "fault", "()I"⟩, prog_14_method_90_code, 1, some .int, 12, false, 7087, 7085, 7086, 1014),
  (⟨rk12, "backMany", "(I)I"⟩, prog_14_method_91_code, 4, some .int, 12, false, 7095, 7094, 94, 1014),
  (⟨rk12, "pixel", "(II)I"⟩, prog_14_method_92_code, 4, some .int, 12, false, 7091, 7089, 7090, 1014),
  (⟨rk12, "height", "(I)I"⟩, prog_14_method_93_code, 2, some .int, 12, false, 7099, 7097, 7098, 1014),
  (⟨rk12, "edge", "(II)I"⟩, prog_14_method_94_code, 3, some .int, 12, false, 7104, 7102, 7103, 1014),
  (⟨rk12, "charge", "(I)I"⟩, prog_14_method_95_code, 2, some .int, 12, false, 7112, 7110, 7111, 1014),
  (⟨rk12, "torn", "(I)I"⟩, prog_14_method_96_code, 2, some .int, 12, false, 7116, 7114, 7115, 1014),
  (⟨rk12, "far", "(II)I"⟩, prog_14_method_97_code, 3, some .int, 12, false, 7120, 7118, 7119, 1014),
  (⟨rk12, "joined", "(II)I"⟩, prog_14_method_98_code, 3, some .int, 12, false, 7124, 7122, 7123, 1014),
  (⟨rk12, "pixelsOf", "(I)I"⟩, prog_14_method_99_code, 4, some .int, 12, false, 7132, 7131, 96, 1014),
  (⟨rk12, "edgesOut", "(I)I"⟩, prog_14_method_100_code, 6, some .int, 12, false, 7136, 7135, 97, 1014),
  (⟨rk12, "island", "(II)I"⟩, prog_14_method_101_code, 3, some .int, 12, false, 7128, 7126, 7127, 1014),
  (⟨rk12, "loop", "(IIII)I"⟩, prog_14_method_102_code, 9, some .int, 12, false, 7140, 7138, 7139, 1014),
  (⟨rk12, "sum", "(I)J"⟩, prog_14_method_103_code, 5, some .long, 12, false, 7144, 7142, 7143, 1014),
  (⟨rk12, "power", "(IJ)J"⟩, prog_14_method_104_code, 9, some .long, 12, false, 7149, 7147, 7148, 1014),
  (⟨rk12, "outmost", "(Z)I"⟩, prog_14_method_105_code, 4, some .int, 12, false, 7160, 7159, 98, 1014),
  (⟨rk12, "range", "(I)I"⟩, prog_14_method_106_code, 3, some .int, 12, false, 7156, 7154, 7155, 1014),
  (⟨rk12, "between", "(II)I"⟩, prog_14_method_107_code, 5, some .int, 12, false, 7164, 7162, 7163, 1014),
  (⟨rk12, "isUp", "(II)Z"⟩, prog_14_method_108_code, 3, some .boolean, 12, false, 7176, 7175, 100, 1014),
  (⟨rk12, "laysAreas", "(I)V"⟩, prog_14_method_109_code, 5, none, 12, false, 7172, 7171, 99, 1014),
  (⟨rk12, "pixelsIn", "(II)I"⟩, prog_14_method_110_code, 5, some .int, 12, false, 7180, 7179, 101, 1014),
  (⟨rk12, "areas", "(II)I"⟩, prog_14_method_111_code, 7, some .int, 12, false, 7168, 7166, 7167, 1014),
  (⟨rk12, "isPeak", "(I)Z"⟩, prog_14_method_112_code, 4, some .boolean, 12, false, 7188, 7187, 102, 1014),
  (⟨rk12, "peak", "(I)I"⟩, prog_14_method_113_code, 4, some .int, 12, false, 7184, 7182, 7183, 1014),
  (⟨rk12, "way", "(II)I"⟩, prog_14_method_114_code, 5, some .int, 12, false, 7192, 7190, 7191, 1014),
  (⟨rk12, "floods", "()V"⟩, prog_14_method_115_code, 1, none, 12, false, 7200, 7199, 103, 1014),
  (⟨rk12, "othersThan", "([I)I"⟩, prog_14_method_116_code, 4, some .int, 12, false, 7208, 7207, 105, 1014),
  (⟨rk12, "would", "(II)I"⟩, prog_14_method_117_code, 5, some .int, 12, false, 7196, 7194, 7195, 1014),
  (⟨rk12, "apart", "(I)I"⟩, prog_14_method_118_code, 4, some .int, 12, false, 7212, 7210, 7211, 1014),
  (⟨rk12, "log", "(II)I"⟩, prog_14_method_119_code, 3, some .int, 12, false, 7216, 7214, 7215, 1014),
  (⟨rk12, "image", "(Z)Z"⟩, prog_14_method_120_code, 3, some .boolean, 12, false, 7220, 7218, 7219, 1014),
  (⟨rk12, "sumOf", "(II)I"⟩, prog_14_method_121_code, 5, some .int, 12, false, 7228, 7227, 106, 1014),
  (⟨rk12, "charges", "()I"⟩, prog_14_method_122_code, 3, some .int, 12, false, 7232, 7231, 107, 1014),
  (⟨rk12, "cuts", "()I"⟩, prog_14_method_123_code, 3, some .int, 12, false, 7236, 7235, 108, 1014),
  (⟨rk12, "laidMany", "()I"⟩, prog_14_method_124_code, 3, some .int, 12, false, 8000, 7239, 109, 1014),
  (⟨rk12, "look", "(I)I"⟩, prog_14_method_125_code, 2, some .int, 12, false, 7224, 7222, 7223, 1014),
  (⟨rk14, "rangeCheck", "(III)V"⟩, prog_17_method_30_code, 3, none, 14, true, 3088, 3087, 0, 1006),
  (⟨rk14, "fill", "([II)V"⟩, prog_17_method_103_code, 4, none, 14, true, 1113, 1112, 0, 1006),
  (⟨rk14, "fill", "([IIII)V"⟩, prog_17_method_104_code, 5, none, 14, true, 3085, 3084, 0, 1006),
  (⟨rk15, "law", "([I)Z"⟩, code, 4, some .boolean, 15, true, 0, 0, 0, 0)]
def mtabs : List (List mrow) := [mtab0, mtab1, mtab2, mtab3, mtab4, mtab5]
def mrow0 : mrow := (⟨"", "", ""⟩, ⟨#[]⟩, 0, none, 0, false, 0, 0, 0, 0)
def mro (k : Nat) : mrow := (mtabs.getD (k / 50) []).getD (k % 50) mrow0
def mname (k : Nat) : MethodName := (mro k).1
def mcode (k : Nat) : ByteArray := (mro k).2.1
def mmaxl (k : Nat) : Nat := (mro k).2.2.1
def mret (k : Nat) : Option FieldType := (mro k).2.2.2.1
def mcls (k : Nat) : Nat := (mro k).2.2.2.2.1
def mstat (k : Nat) : Bool := (mro k).2.2.2.2.2.1
abbrev prow : Type := Nat × (Nat × Nat × Nat) × Nat
def ptab0 : List prow := [(3, (7, 0, 0), 1181), (9, (5, 10, 3), 1182), (11, (3, 0, 2), 1187), (17, (1, 0, 1), 1186), (21, (5, 2, 6), 2148), (23, (4, 7, 0), 2149), (24, (4, 106, 1), 2150), (27, (4, 107, 1), 2151), (31, (1, 0, 0), 1184), (34, (9, 0, 0), 2172)]
def ptab1 : List prow := [(3, (7, 0, 0), 2071), (9, (3, 1, 3), 2078), (15, (3, 1, 4), 2079), (19, (1, 1, 0), 2072), (23, (1, 1, 1), 2074), (26, (1, 1, 2), 2076), (29, (4, 10, 0), 5032), (35, (4, 56, 1), 5033), (41, (3, 5, 4), 1124), (44, (4, 5, 2), 5034), (48, (1, 1, 5), 2080), (51, (4, 6, 1), 5038), (55, (4, 22, 2), 5042)]
def ptab2 : List prow := [(3, (7, 0, 0), 1032), (9, (3, 2, 2), 1043), (15, (3, 2, 3), 1047), (18, (3, 2, 4), 1051), (22, (3, 2, 5), 1055), (25, (4, 8, 2), 1033), (29, (1, 2, 0), 1037), (33, (1, 2, 1), 1040), (36, (6, 0, 0), 2159), (42, (4, 10, 0), 2197), (46, (4, 12, 1), 2231), (50, (4, 11, 1), 2227), (53, (4, 13, 1), 2226), (57, (4, 16, 1), 3178), (60, (4, 17, 1), 3182), (63, (4, 19, 1), 3003), (66, (4, 20, 2), 2239), (70, (4, 15, 1), 5122), (73, (4, 25, 1), 5123), (76, (10, 0, 0), 3017), (81, (9, 0, 0), 3078), (84, (4, 28, 1), 3115), (87, (4, 27, 2), 3116), (90, (4, 22, 2), 3013), (93, (8, 0, 0), 3020)]
def ptab3 : List prow := [(3, (7, 0, 0), 2020), (9, (3, 3, 0), 2021), (15, (3, 3, 1), 2023), (19, (3, 3, 2), 2025), (22, (3, 3, 3), 2026), (25, (3, 10, 0), 1163), (31, (4, 10, 0), 3172), (37, (4, 14, 1), 3173), (41, (4, 18, 1), 3174), (44, (4, 109, 1), 3186), (47, (1, 3, 4), 2027), (51, (4, 289, 2), 3194), (57, (3, 10, 2), 1167), (61, (4, 56, 1), 3195), (66, (4, 36, 3), 3199), (70, (4, 22, 2), 3203), (74, (4, 23, 2), 3204), (77, (3, 2, 3), 1048), (80, (9, 0, 0), 3208), (85, (4, 37, 3), 3209), (89, (4, 39, 2), 3221)]
def ptab4 : List prow := [(3, (7, 0, 0), 1082), (9, (3, 4, 2), 1087), (15, (3, 4, 3), 1089), (18, (3, 4, 4), 1091), (21, (1, 4, 0), 1083), (25, (1, 4, 1), 1085), (28, (4, 289, 2), 2184), (34, (6, 0, 0), 2166), (40, (4, 29, 2), 3111), (46, (4, 45, 2), 3117), (50, (4, 44, 3), 3132), (54, (4, 11, 1), 3121), (58, (4, 12, 1), 3122), (61, (9, 0, 0), 3136), (66, (8, 0, 0), 3137), (69, (4, 46, 4), 3128), (73, (4, 47, 4), 3124), (76, (4, 28, 1), 3123), (79, (1, 2, 0), 1038), (82, (1, 2, 1), 1041)]
def ptab5 : List prow := [(3, (7, 0, 0), 1110), (9, (3, 5, 4), 1123), (15, (3, 5, 5), 1128), (18, (3, 5, 6), 1130), (21, (3, 5, 7), 1134), (24, (3, 5, 8), 1136), (27, (3, 5, 9), 1138), (30, (4, 289, 2), 1111), (36, (2, 5, 0), 1114), (40, (1, 5, 1), 1116), (44, (1, 5, 2), 1118), (47, (1, 5, 3), 1120), (50, (6, 0, 0), 2171), (56, (4, 49, 0), 3158), (59, (4, 10, 0), 3159), (65, (4, 24, 0), 3160), (68, (4, 38, 0), 3217), (73, (3, 3, 1), 2024), (76, (4, 53, 3), 3225), (80, (4, 55, 1), 3230), (84, (4, 54, 2), 3235), (88, (4, 36, 3), 3239), (92, (4, 20, 2), 3229), (96, (3, 2, 2), 1045), (99, (4, 56, 1), 3234), (103, (3, 2, 4), 1054), (107, (3, 2, 3), 1050), (118, (11, 0, 0), 5001), (132, (4, 22, 2), 5051)]
def ptab6 : List prow := [(3, (7, 0, 0), 1200), (9, (3, 6, 1), 1203), (15, (1, 6, 0), 1201), (19, (6, 0, 0), 5111), (25, (9, 0, 0), 5093)]
def ptab7 : List prow := [(3, (7, 0, 0), 1236), (9, (3, 7, 1), 1239), (15, (3, 7, 2), 2001), (18, (3, 7, 3), 2002), (21, (3, 7, 4), 2003), (24, (1, 7, 0), 1237), (28, (4, 10, 0), 2221), (34, (4, 15, 1), 2222), (38, (4, 25, 1), 2235), (42, (4, 27, 2), 3027), (46, (9, 0, 0), 3031), (51, (4, 73, 1), 3061), (55, (4, 78, 1), 3066), (58, (4, 80, 1), 3079), (61, (4, 41, 0), 3106), (66, (4, 43, 3), 3107), (70, (4, 79, 3), 3070), (73, (4, 28, 1), 3074), (76, (4, 290, 4), 3083), (82, (4, 83, 2), 3089), (86, (4, 81, 3), 3092), (90, (4, 84, 2), 3099), (93, (4, 82, 4), 3096)]
def ptab8 : List prow := [(5, (7, 0, 0), 2044), (11, (3, 8, 3), 2050), (17, (3, 8, 4), 2051), (20, (3, 8, 5), 2052), (23, (1, 8, 2), 2049), (27, (4, 10, 0), 4051), (33, (4, 14, 1), 4052), (37, (4, 16, 1), 4053), (41, (4, 17, 1), 4054), (44, (4, 87, 4), 4055), (48, (4, 56, 1), 4059), (53, (3, 5, 6), 1131), (56, (4, 89, 2), 4060), (60, (4, 90, 4), 4063), (64, (4, 88, 2), 4069), (68, (4, 20, 2), 4066), (71, (3, 5, 4), 1125), (77, (9, 0, 0), 4225), (82, (8, 0, 0), 4226), (85, (4, 92, 2), 4077), (88, (4, 93, 3), 4081), (92, (1, 8, 0), 2045), (95, (1, 8, 1), 2047), (98, (4, 94, 2), 4085), (102, (10, 0, 0), 4088), (105, (1, 5, 3), 1121), (108, (4, 86, 2), 4047), (112, (4, 96, 0), 4073), (115, (4, 97, 3), 4089), (119, (4, 98, 3), 4095), (123, (4, 60, 3), 4093), (127, (4, 61, 3), 4094)]
def ptab9 : List prow := [(3, (7, 0, 0), 1214), (9, (3, 9, 3), 1221), (15, (1, 9, 0), 1215), (19, (4, 102, 2), 4119), (23, (4, 103, 2), 4122), (26, (1, 9, 1), 1217), (29, (1, 9, 2), 1219), (32, (4, 104, 1), 4126), (36, (4, 10, 0), 4133), (42, (4, 12, 1), 4134), (45, (3, 2, 4), 1053), (49, (3, 2, 2), 1046), (52, (4, 19, 1), 4135)]
def ptab10 : List prow := [(3, (7, 0, 0), 1076), (9, (3, 10, 0), 1161), (15, (5, 4, 5), 1077), (17, (4, 40, 0), 1079), (18, (3, 10, 1), 1164), (22, (5, 5, 10), 1105), (24, (4, 48, 0), 1107), (25, (3, 10, 2), 1166), (29, (4, 9, 1), 2155), (35, (4, 42, 1), 2162), (38, (4, 50, 1), 2167), (41, (4, 8, 2), 2179), (45, (4, 41, 0), 2180), (48, (4, 49, 0), 2185), (49, (3, 2, 5), 1056), (53, (3, 4, 4), 1092), (57, (4, 10, 0), 4004), (61, (4, 109, 1), 4010), (65, (4, 113, 1), 4011), (68, (3, 5, 6), 1132), (71, (4, 16, 1), 4015), (75, (4, 17, 1), 4016), (78, (4, 56, 1), 4017), (81, (3, 5, 4), 1126), (84, (4, 20, 2), 4018), (88, (4, 14, 1), 4005), (91, (4, 111, 1), 4006), (94, (4, 112, 1), 5068)]
def ptab11 : List prow := [(3, (7, 0, 0), 1022), (9, (5, 10, 3), 1025), (11, (5, 2, 6), 1027), (13, (4, 7, 0), 1029), (14, (4, 106, 1), 1073), (17, (3, 11, 0), 2094), (21, (3, 10, 0), 1162), (25, (3, 11, 1), 2095), (28, (5, 0, 3), 1176), (30, (4, 0, 0), 1178), (31, (3, 11, 2), 2096), (35, (5, 6, 2), 1195), (37, (4, 67, 0), 1197), (38, (3, 11, 3), 2097), (42, (5, 9, 4), 1209), (44, (4, 99, 0), 1211), (45, (3, 11, 4), 2098), (49, (5, 7, 5), 1231), (51, (4, 72, 0), 1233), (52, (3, 11, 5), 2099), (56, (5, 3, 5), 2015), (58, (4, 33, 0), 2017), (59, (3, 11, 6), 2100), (63, (5, 8, 6), 2039), (65, (4, 85, 0), 2041), (66, (3, 11, 7), 2101), (70, (5, 1, 6), 2066), (72, (4, 3, 0), 2068), (73, (3, 11, 8), 2102), (77, (1, 11, 10), 2104), (81, (4, 159, 1), 2141), (85, (4, 1, 1), 2144), (89, (4, 108, 2), 2175), (93, (4, 13, 1), 2193), (96, (3, 2, 2), 1044), (100, (4, 19, 1), 2201), (104, (3, 10, 2), 1168), (108, (4, 49, 0), 2204), (113, (3, 2, 4), 1052), (117, (3, 2, 3), 1049), (120, (4, 73, 1), 2217), (123, (4, 10, 0), 3004), (127, (4, 161, 2), 3005), (131, (4, 11, 1), 3037), (134, (4, 12, 1), 3038), (137, (4, 160, 1), 3043), (140, (1, 11, 9), 2103), (143, (4, 75, 2), 3057), (147, (4, 76, 2), 3062), (151, (3, 10, 1), 1165), (155, (4, 77, 2), 3102), (159, (1, 7, 0), 1238), (162, (1, 4, 1), 1086), (167, (4, 69, 3), 3138), (171, (4, 14, 1), 3146), (174, (3, 2, 5), 1057), (177, (4, 51, 1), 3154), (180, (1, 5, 1), 1117), (183, (2, 5, 0), 1115), (187, (4, 34, 1), 3168), (190, (4, 35, 1), 3190), (193, (1, 5, 3), 1122), (196, (4, 52, 2), 3213), (200, (3, 5, 8), 1137), (203, (4, 114, 0), 4000), (206, (4, 57, 1), 4023), (209, (4, 60, 3), 4027), (213, (4, 61, 3), 4034), (217, (4, 50, 1), 4042), (221, (4, 95, 2), 4043), (225, (1, 9, 0), 1216), (228, (4, 100, 1), 4103), (232, (4, 101, 0), 4115), (235, (1, 9, 1), 1218), (238, (1, 9, 2), 1220), (241, (4, 105, 1), 4129), (243, (4, 56, 1), 4144), (246, (3, 5, 5), 1129), (249, (3, 5, 6), 1133), (252, (4, 59, 1), 4145), (255, (3, 5, 7), 1135), (259, (3, 5, 4), 1127), (262, (4, 21, 1), 4158), (265, (4, 18, 1), 4162), (268, (3, 4, 4), 1093), (271, (4, 111, 1), 4163), (274, (4, 112, 1), 4164), (277, (4, 16, 1), 4168), (280, (4, 17, 1), 4169), (283, (9, 0, 0), 3032), (288, (4, 15, 1), 4174), (291, (4, 25, 1), 4175), (294, (3, 7, 1), 2000), (297, (4, 28, 1), 4184), (300, (4, 27, 2), 4185), (303, (1, 4, 0), 1084), (304, (3, 4, 2), 1088), (307, (3, 4, 3), 1090), (310, (4, 29, 2), 4190), (313, (1, 2, 0), 1039), (314, (1, 2, 1), 1042), (315, (4, 31, 4), 4195), (319, (4, 32, 4), 4199), (323, (4, 58, 2), 4207), (327, (3, 5, 9), 1139), (330, (4, 116, 1), 4211), (334, (4, 86, 2), 4220), (337, (4, 91, 2), 4221), (340, (1, 8, 1), 2048), (343, (1, 8, 0), 2046), (350, (4, 62, 2), 4237), (358, (4, 63, 1), 5012), (362, (4, 64, 1), 5016), (365, (4, 4, 3), 5028), (369, (1, 1, 0), 2073), (370, (1, 1, 1), 2075), (373, (1, 1, 2), 2077), (376, (4, 65, 2), 5047), (379, (4, 162, 0), 5060), (382, (4, 115, 0), 5064), (385, (4, 66, 2), 5069), (388, (3, 3, 0), 2022), (391, (4, 2, 1), 5081), (395, (1, 0, 0), 1185), (396, (4, 70, 1), 5089), (399, (4, 71, 2), 5094), (402, (4, 163, 0), 5102), (405, (3, 11, 11), 2105), (408, (3, 11, 12), 2106), (411, (4, 107, 1), 5106), (413, (4, 68, 1), 5107), (416, (1, 11, 13), 2107), (419, (4, 24, 0), 5116), (422, (4, 140, 1), 5117), (425, (4, 26, 0), 5118), (428, (4, 110, 0), 5124), (431, (1, 5, 2), 1119), (434, (1, 6, 0), 1202), (439, (4, 30, 1), 3009), (442, (4, 74, 2), 3023)]
def ptab12 : List prow := [(1, (7, 0, 0), 5133), (7, (3, 12, 1), 5135), (13, (3, 12, 2), 5136), (16, (3, 12, 4), 5138), (19, (3, 12, 6), 5140), (22, (3, 12, 8), 5142), (25, (3, 12, 10), 5144), (28, (3, 12, 11), 5145), (31, (3, 12, 14), 5148), (34, (3, 12, 15), 5149), (37, (1, 12, 17), 5151), (41, (3, 12, 18), 5152), (44, (3, 12, 19), 5153), (48, (3, 12, 22), 5156), (51, (3, 12, 24), 5158), (54, (3, 12, 25), 5159), (57, (1, 12, 0), 5134), (60, (4, 166, 0), 6015), (64, (4, 167, 0), 6019), (67, (4, 168, 0), 6011), (72, (4, 170, 1), 6036), (76, (4, 177, 1), 6031), (80, (4, 175, 1), 6064), (83, (4, 174, 1), 6068), (86, (4, 180, 1), 6207), (89, (4, 172, 1), 6044), (93, (4, 181, 1), 6211), (96, (4, 171, 1), 6223), (99, (1, 12, 5), 5139), (102, (1, 12, 7), 5141), (105, (4, 186, 0), 5235), (108, (4, 187, 0), 6027), (111, (4, 185, 3), 5223), (115, (4, 165, 3), 5231), (119, (4, 190, 2), 5239), (123, (4, 169, 1), 6007), (126, (4, 188, 0), 6023), (129, (4, 195, 2), 6060), (133, (4, 178, 2), 6072), (136, (4, 176, 1), 6076), (139, (4, 206, 1), 6084), (142, (4, 198, 2), 6092), (145, (4, 197, 1), 6056), (148, (4, 199, 1), 6080), (152, (1, 12, 3), 5137), (156, (4, 202, 1), 6104), (159, (4, 205, 1), 6088), (162, (4, 207, 2), 6146), (165, (4, 208, 1), 6142), (168, (1, 12, 9), 5143), (171, (4, 209, 1), 6138), (174, (4, 211, 2), 6150), (178, (4, 212, 0), 6134), (182, (4, 215, 1), 6163), (186, (4, 210, 0), 6122), (189, (4, 213, 0), 6130), (192, (4, 214, 0), 6154), (195, (4, 216, 2), 6159), (198, (4, 217, 2), 6167), (201, (4, 219, 1), 6118), (204, (4, 218, 1), 6126), (207, (4, 179, 1), 6175), (210, (4, 173, 1), 6187), (213, (4, 223, 4), 6231), (217, (4, 196, 2), 6199), (220, (4, 182, 1), 6203), (223, (4, 183, 1), 6215), (226, (4, 184, 1), 6219), (229, (4, 224, 0), 6227), (232, (4, 222, 0), 6183), (235, (4, 225, 0), 6195), (239, (4, 232, 0), 6235), (242, (4, 229, 1), 7003), (245, (4, 228, 1), 7007), (248, (4, 230, 1), 6239), (251, (4, 231, 1), 7105), (254, (4, 234, 1), 7015), (257, (4, 235, 2), 7019), (260, (4, 236, 2), 7023), (263, (1, 12, 13), 5147), (266, (4, 239, 3), 7035), (269, (4, 238, 2), 7039), (272, (1, 12, 12), 5146), (275, (4, 240, 2), 7043), (278, (4, 241, 2), 7031), (282, (4, 243, 0), 7052), (285, (4, 244, 0), 7056), (288, (1, 12, 16), 5150), (291, (4, 246, 1), 7064), (294, (1, 12, 20), 5154), (297, (1, 12, 21), 5155), (300, (4, 249, 1), 7080), (303, (4, 250, 1), 7076), (306, (4, 253, 1), 7092), (310, (4, 261, 1), 7129), (313, (4, 262, 1), 7133), (326, (4, 267, 1), 7157), (330, (4, 270, 2), 7173), (333, (4, 271, 1), 7169), (336, (4, 272, 2), 7177), (339, (4, 274, 1), 7185), (342, (4, 277, 0), 7197), (345, (4, 233, 0), 7201), (348, (4, 278, 1), 7205), (352, (2, 12, 23), 5157), (356, (1, 12, 26), 5160), (359, (1, 12, 27), 5161), (362, (4, 283, 2), 7225), (365, (4, 284, 0), 7229), (368, (4, 285, 0), 7233), (371, (4, 286, 0), 7237)]
def ptab13 : List prow := []
def ptab14 : List prow := [(13, (4, 288, 3), 3086)]
def ptab15 : List prow := [(7, (5, 11, 14), 1017), (9, (4, 117, 0), 1019), (10, (5, 12, 28), 5128), (12, (4, 164, 0), 5130), (13, (4, 118, 2), 2137), (17, (4, 191, 2), 5227), (18, (4, 119, 2), 2189), (22, (4, 192, 2), 6003), (23, (4, 120, 2), 2205), (27, (4, 193, 2), 6040), (28, (4, 121, 2), 2209), (31, (4, 194, 2), 6048), (32, (4, 122, 1), 2213), (36, (4, 200, 1), 6052), (37, (4, 123, 2), 3033), (40, (4, 201, 2), 6096), (41, (4, 124, 1), 3039), (45, (4, 203, 1), 6100), (46, (4, 125, 1), 3049), (49, (4, 204, 1), 6110), (50, (4, 126, 1), 3053), (53, (4, 220, 1), 6114), (54, (4, 127, 2), 3142), (57, (4, 221, 2), 6171), (58, (4, 128, 0), 3150), (62, (4, 226, 0), 6179), (63, (4, 129, 1), 3164), (66, (4, 227, 1), 6191), (67, (4, 130, 2), 4019), (70, (4, 237, 2), 7011), (71, (4, 131, 0), 4038), (74, (4, 245, 0), 7048), (75, (4, 132, 5), 4099), (79, (4, 247, 5), 7060), (80, (4, 133, 1), 4107), (83, (4, 248, 1), 7068), (84, (4, 134, 0), 4111), (87, (4, 251, 0), 7072), (88, (4, 135, 0), 4136), (91, (4, 252, 0), 7084), (92, (4, 136, 2), 4140), (95, (4, 254, 2), 7088), (96, (4, 137, 1), 4149), (99, (4, 255, 1), 7096), (100, (4, 138, 2), 4154), (103, (4, 256, 2), 7101), (104, (4, 139, 1), 4170), (107, (4, 257, 1), 7109), (108, (4, 140, 1), 4176), (111, (4, 258, 1), 7113), (112, (4, 141, 2), 4180), (115, (4, 259, 2), 7117), (116, (4, 142, 2), 4186), (119, (4, 260, 2), 7121), (120, (4, 144, 2), 4203), (123, (4, 263, 2), 7125), (124, (4, 145, 3), 4215), (128, (4, 242, 3), 7027), (129, (4, 143, 4), 4191), (133, (4, 264, 4), 7137), (134, (4, 146, 1), 4227), (138, (4, 265, 1), 7141), (141, (4, 147, 2), 4232), (145, (4, 266, 2), 7146), (146, (4, 148, 1), 5008), (149, (4, 268, 1), 7153), (150, (4, 149, 2), 5020), (153, (4, 269, 2), 7161), (154, (4, 150, 2), 5024), (157, (4, 273, 2), 7165), (158, (4, 151, 1), 5043), (161, (4, 275, 1), 7181), (162, (4, 152, 2), 5052), (165, (4, 276, 2), 7189), (166, (4, 153, 2), 5056), (169, (4, 279, 2), 7193), (170, (4, 154, 1), 5073), (173, (4, 280, 1), 7209), (174, (4, 155, 0), 5077), (177, (4, 189, 0), 5219), (178, (4, 156, 2), 5085), (181, (4, 281, 2), 7213), (182, (4, 157, 1), 5098), (186, (4, 282, 1), 7217), (187, (4, 158, 1), 5112), (190, (4, 287, 1), 7221)]
def ptabs : List (List prow) := [ptab0, ptab1, ptab2, ptab3, ptab4, ptab5, ptab6, ptab7, ptab8, ptab9, ptab10, ptab11, ptab12, ptab13, ptab14, ptab15]
def pfind (l : List prow) (idx : Nat) : Option (Nat × Nat × Nat) := (l.find? (fun r => r.1 == idx)).map (fun r => r.2.1)
def pool (c idx : Nat) : Option (Nat × Nat × Nat) := pfind (ptabs.getD c []) idx
def ctabs : List (List (Nat × Int × Nat)) := [[], [], [], [], [], [], [], [], [(76, -2147483648, 4068)], [], [], [(437, 1664525, 3047), (438, 1013904223, 3048), (258, -100000000, 4153), (333, -1000000000, 4219)], [(151, 1664525, 6108), (155, 1013904223, 6109), (181, 1000000, 6158), (281, -1000000000, 7047), (309, -100000000, 7100)], [], [], []]
def cst (c idx : Nat) : Option Int := ((ctabs.getD c []).find? (fun r => r.1 == idx)).map (fun r => r.2.1)
def ltabs : List (List (Nat × Int × Nat)) := [[], [], [], [], [], [(110, 255, 4031), (114, -2147483648, 4032), (116, 2147483647, 4033), (124, 3037000499, 5004), (128, 9223372036854775807, 5005), (130, -1, 5006)], [], [], [(74, 255, 4067)], [], [], [(346, -1000000000000, 4231), (348, -1, 4236), (356, 9223372036854775807, 5007)], [(70, 255, 6035), (316, -1000000000000, 7145), (318, -1, 7150), (320, 3037000499, 7151), (324, 9223372036854775807, 7152)], [], [], [(139, 4294967295, 8001)]]
def csl (c idx : Nat) : Option Int := ((ltabs.getD c []).find? (fun r => r.1 == idx)).map (fun r => r.2.1)
def lwc : List (List Cond) := [k2_sels lw_privs, tables_1_1, tables_1_2, tables_1_3, tables_1_4, tables_1_5, tables_1_6, tables_1_7, tables_1_8]
