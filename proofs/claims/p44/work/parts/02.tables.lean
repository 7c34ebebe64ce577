/-! names and tables of the program, for the small machine -/
def rk0 : String := "TornFringes$Acts"
def tk0 : u_T := fun k => match k with
  | 0 => ("TornFringes$Acts", "count", "I", false)
  | 1 => ("TornFringes$Acts", "next", "I", false)
  | _ => ("TornFringes$Acts", "kept", "[LTornFringes$Whole;", true)
def rk1 : String := "TornFringes$Areas"
def tk1 : u_T := fun k => match k with
  | 0 => ("TornFringes$Areas", "count", "I", false)
  | 1 => ("TornFringes$Areas", "most", "I", false)
  | 2 => ("TornFringes$Areas", "leastPixel", "I", false)
  | 3 => ("TornFringes$Areas", "open", "[Z", true)
  | 4 => ("TornFringes$Areas", "stack", "[I", true)
  | _ => ("TornFringes$Areas", "depth", "I", false)
def rk2 : String := "TornFringes$Chart"
def tk2 : u_T := fun k => match k with
  | 0 => ("TornFringes$Chart", "rows", "I", false)
  | 1 => ("TornFringes$Chart", "cols", "I", false)
  | 2 => ("TornFringes$Chart", "phases", "[I", true)
  | 3 => ("TornFringes$Chart", "grades", "[I", true)
  | 4 => ("TornFringes$Chart", "hidden", "[Z", true)
  | _ => ("TornFringes$Chart", "byHand", "[Z", true)
def rk3 : String := "TornFringes$Front"
def tk3 : u_T := fun k => match k with
  | 0 => ("TornFringes$Front", "barred", "[Z", true)
  | 1 => ("TornFringes$Front", "via", "[I", true)
  | 2 => ("TornFringes$Front", "worth", "[I", true)
  | 3 => ("TornFringes$Front", "waiting", "[I", true)
  | _ => ("TornFringes$Front", "count", "I", false)
def rk4 : String := "TornFringes$Joining"
def tk4 : u_T := fun k => match k with
  | 0 => ("TornFringes$Joining", "count", "I", false)
  | 1 => ("TornFringes$Joining", "fars", "I", false)
  | 2 => ("TornFringes$Joining", "firsts", "[I", true)
  | 3 => ("TornFringes$Joining", "others", "[I", true)
  | _ => ("TornFringes$Joining", "over", "[I", true)
def rk5 : String := "TornFringes$Lay"
def tk5 : u_T := fun k => match k with
  | 0 => ("TornFringes$Lay", "flooding", "Z", false)
  | 1 => ("TornFringes$Lay", "awaited", "I", false)
  | 2 => ("TornFringes$Lay", "laid", "I", false)
  | 3 => ("TornFringes$Lay", "isleCount", "I", false)
  | 4 => ("TornFringes$Lay", "heights", "[I", true)
  | 5 => ("TornFringes$Lay", "froms", "[I", true)
  | 6 => ("TornFringes$Lay", "isles", "[I", true)
  | 7 => ("TornFringes$Lay", "moves", "[I", true)
  | 8 => ("TornFringes$Lay", "starts", "[I", true)
  | _ => ("TornFringes$Lay", "turns", "[I", true)
def rk6 : String := "TornFringes$Log"
def tk6 : u_T := fun k => match k with
  | 0 => ("TornFringes$Log", "total", "I", false)
  | _ => ("TornFringes$Log", "numbers", "[I", true)
def rk7 : String := "TornFringes$Pairing"
def tk7 : u_T := fun k => match k with
  | 0 => ("TornFringes$Pairing", "count", "I", false)
  | 1 => ("TornFringes$Pairing", "rings", "[I", true)
  | 2 => ("TornFringes$Pairing", "charges", "[I", true)
  | 3 => ("TornFringes$Pairing", "mates", "[I", true)
  | _ => ("TornFringes$Pairing", "least", "[I", true)
def rk8 : String := "TornFringes$Seams"
def tk8 : u_T := fun k => match k with
  | 0 => ("TornFringes$Seams", "fitTurns", "I", false)
  | 1 => ("TornFringes$Seams", "fitEdges", "I", false)
  | 2 => ("TornFringes$Seams", "count", "I", false)
  | 3 => ("TornFringes$Seams", "pairs", "[I", true)
  | 4 => ("TornFringes$Seams", "turns", "[I", true)
  | _ => ("TornFringes$Seams", "groups", "[I", true)
def rk9 : String := "TornFringes$Tape"
def tk9 : u_T := fun k => match k with
  | 0 => ("TornFringes$Tape", "length", "I", false)
  | 1 => ("TornFringes$Tape", "rows", "I", false)
  | 2 => ("TornFringes$Tape", "cols", "I", false)
  | _ => ("TornFringes$Tape", "bytes", "[I", true)
def rk10 : String := "TornFringes$Whole"
def tk10 : u_T := fun k => match k with
  | 0 => ("TornFringes$Whole", "chart", "LTornFringes$Chart;", true)
  | 1 => ("TornFringes$Whole", "joining", "LTornFringes$Joining;", true)
  | _ => ("TornFringes$Whole", "lay", "LTornFringes$Lay;", true)
def rk11 : String := "TornFringes"
def tk11 : u_T := fun k => match k with
  | 0 => ("TornFringes", "now", "LTornFringes$Whole;", true)
  | 1 => ("TornFringes", "thought", "LTornFringes$Whole;", true)
  | 2 => ("TornFringes", "acts", "LTornFringes$Acts;", true)
  | 3 => ("TornFringes", "lines", "LTornFringes$Log;", true)
  | 4 => ("TornFringes", "tape", "LTornFringes$Tape;", true)
  | 5 => ("TornFringes", "pairing", "LTornFringes$Pairing;", true)
  | 6 => ("TornFringes", "front", "LTornFringes$Front;", true)
  | 7 => ("TornFringes", "seams", "LTornFringes$Seams;", true)
  | 8 => ("TornFringes", "patches", "LTornFringes$Areas;", true)
  | 9 => ("TornFringes", "drawn", "I", false)
  | 10 => ("TornFringes", "wrongAt", "I", false)
  | 11 => ("TornFringes", "imageOfWhole", "LTornFringes$Whole;", false)
  | 12 => ("TornFringes", "imageOfLines", "LTornFringes$Log;", false)
  | _ => ("TornFringes", "imageOfDrawn", "I", false)
def rk12 : String := "java/lang/Math"
def rk13 : String := "java/util/Arrays"
def rk14 : String := "TornFringesLaw"
abbrev cks : List vw_C := [(rk0, tk0, 3), (rk1, tk1, 6), (rk2, tk2, 6), (rk3, tk3, 5), (rk4, tk4, 5), (rk5, tk5, 10), (rk6, tk6, 2), (rk7, tk7, 5), (rk8, tk8, 6), (rk9, tk9, 4), (rk10, tk10, 3), (rk11, tk11, 14)]
def cnl : List String := [rk0, rk1, rk2, rk3, rk4, rk5, rk6, rk7, rk8, rk9, rk10, rk11, rk12, rk13, rk14]
def cn (c : Nat) : String := cnl.getD c ""
def ftl : List (List Nat) := [[1, 1, 3], [1, 1, 1, 3, 3, 1], [1, 1, 3, 3, 3, 3], [3, 3, 3, 3, 1], [1, 1, 3, 3, 3], [2, 1, 1, 1, 3, 3, 3, 3, 3, 3], [1, 3], [1, 3, 3, 3, 3], [1, 1, 1, 3, 3, 3], [1, 1, 1, 3], [3, 3, 3], [3, 3, 3, 3, 3, 3, 3, 3, 3, 1, 1, 3, 3, 1]]
def ft (c j : Nat) : Nat := (ftl.getD c []).getD j 0
def fnl : List (List Bool) := [[false, false, true], [false, false, false, true, true, false], [false, false, true, true, true, true], [true, true, true, true, false], [false, false, true, true, true], [false, false, false, false, true, true, true, true, true, true], [false, true], [false, true, true, true, true], [false, false, false, true, true, true], [false, false, false, true], [true, true, true], [true, true, true, true, true, true, true, true, true, false, false, false, false, false]]
def fn (c j : Nat) : Bool := (fnl.getD c []).getD j false
abbrev mrow : Type := MethodName × ByteArray × Nat × Option FieldType × Nat × Bool × Nat × Nat × Nat × Nat
def mtab0 : List mrow := [
  (⟨rk0, "<init>", "()V"⟩, prog_2_method_1_code, 1, none, 0, false, 1173, 1172, 0, 1007),
  (⟨rk0, "keep", "(LTornFringes$Whole;)V"⟩, prog_2_method_2_code, 2, none, 0, false, 2119, 2117, 2118, 1007),
  (⟨rk1, "<init>", "()V"⟩, prog_3_method_1_code, 1, none, 1, false, 2055, 2054, 0, 1013),
  (⟨rk2, "<init>", "()V"⟩, prog_4_method_1_code, 1, none, 2, false, 1030, 1029, 0, 1003),
  (⟨rk2, "reset", "(II)V"⟩, prog_4_method_2_code, 4, none, 2, false, 1035, 1033, 1034, 1003),
  (⟨rk2, "copyFrom", "(LTornFringes$Chart;)V"⟩, prog_4_method_3_code, 2, none, 2, false, 2130, 2128, 2129, 1003),
  (⟨rk2, "pixels", "()I"⟩, prog_4_method_4_code, 1, some .int, 2, false, 2154, 2152, 2153, 1003),
  (⟨rk2, "rowOf", "(I)I"⟩, prog_4_method_5_code, 2, some .int, 2, false, 2167, 2165, 2166, 1003),
  (⟨rk2, "colOf", "(I)I"⟩, prog_4_method_6_code, 2, some .int, 2, false, 2171, 2169, 2170, 1003),
  (⟨rk2, "hasPixel", "(I)Z"⟩, prog_4_method_7_code, 2, some .boolean, 2, false, 2162, 2160, 2161, 1003),
  (⟨rk2, "hasEdge", "(I)Z"⟩, prog_4_method_8_code, 3, some .boolean, 2, false, 3087, 3085, 3086, 1003),
  (⟨rk2, "hasRing", "(I)Z"⟩, prog_4_method_9_code, 2, some .boolean, 2, false, 2158, 2156, 2157, 1003),
  (⟨rk2, "tail", "(I)I"⟩, prog_4_method_10_code, 2, some .int, 2, false, 3119, 3117, 3118, 1003),
  (⟨rk2, "tip", "(I)I"⟩, prog_4_method_11_code, 2, some .int, 2, false, 3123, 3121, 3122, 1003),
  (⟨rk2, "isShut", "(I)Z"⟩, prog_4_method_12_code, 2, some .boolean, 2, false, 3115, 3113, 3114, 1003),
  (⟨rk2, "wrapped", "(I)I"⟩, prog_4_method_13_code, 2, some .int, 2, true, 2182, 2181, 0, 1003),
  (⟨rk2, "stepFrom", "(II)I"⟩, prog_4_method_14_code, 3, some .int, 2, false, 2179, 2177, 2178, 1003),
  (⟨rk2, "stepOver", "(I)I"⟩, prog_4_method_15_code, 2, some .int, 2, false, 4051, 4049, 4050, 1003),
  (⟨rk2, "beside", "(II)I"⟩, prog_4_method_16_code, 3, some .int, 2, false, 2195, 2193, 2194, 1003),
  (⟨rk2, "edgeAt", "(II)I"⟩, prog_4_method_17_code, 3, some .int, 2, false, 3145, 3143, 3144, 1003),
  (⟨rk2, "countHidden", "()I"⟩, prog_4_method_18_code, 3, some .int, 2, false, 3101, 3099, 3100, 1003),
  (⟨rk2, "chargeOf", "(I)I"⟩, prog_4_method_19_code, 6, some .int, 2, false, 2175, 2173, 2174, 1003),
  (⟨rk2, "chargesTogether", "()I"⟩, prog_4_method_20_code, 3, some .int, 2, false, 4073, 4071, 4072, 1003),
  (⟨rk2, "farBetween", "(II)I"⟩, prog_4_method_21_code, 3, some .int, 2, false, 2209, 2207, 2208, 1003),
  (⟨rk2, "farToBorder", "(I)I"⟩, prog_4_method_22_code, 5, some .int, 2, false, 3011, 3009, 3010, 1003),
  (⟨rk2, "farOf", "(II)I"⟩, prog_4_method_23_code, 3, some .int, 2, false, 3052, 3050, 3051, 1003),
  (⟨rk2, "gradeBySteps", "(I)I"⟩, prog_4_method_24_code, 6, some .int, 2, false, 2191, 2189, 2190, 1003),
  (⟨rk3, "<init>", "()V"⟩, prog_5_method_1_code, 1, none, 3, false, 2007, 2006, 0, 1011),
  (⟨rk3, "bar", "(LTornFringes$Whole;)V"⟩, prog_5_method_2_code, 3, none, 3, false, 3109, 3107, 3108, 1011),
  (⟨rk3, "gather", "(LTornFringes$Whole;)V"⟩, prog_5_method_3_code, 3, none, 3, false, 3131, 3129, 3130, 1011),
  (⟨rk3, "spread", "(LTornFringes$Chart;LTornFringes$Lay;I)V"⟩, prog_5_method_4_code, 6, none, 3, false, 3140, 3138, 3139, 1011),
  (⟨rk3, "offer", "(III)V"⟩, prog_5_method_5_code, 4, none, 3, false, 3150, 3149, 10, 1011),
  (⟨rk3, "takeBest", "()I"⟩, prog_5_method_6_code, 3, some .int, 3, false, 3158, 3156, 3157, 1011),
  (⟨rk3, "isBetter", "(II)Z"⟩, prog_5_method_7_code, 3, some .boolean, 3, false, 3162, 3161, 11, 1011),
  (⟨rk4, "<init>", "()V"⟩, prog_6_method_1_code, 1, none, 4, false, 1078, 1077, 0, 1004),
  (⟨rk4, "clear", "()V"⟩, prog_6_method_2_code, 1, none, 4, false, 3043, 3041, 3042, 1004),
  (⟨rk4, "copyFrom", "(LTornFringes$Joining;)V"⟩, prog_6_method_3_code, 2, none, 4, false, 2137, 2135, 2136, 1004),
  (⟨rk4, "add", "(LTornFringes$Chart;II)V"⟩, prog_6_method_4_code, 4, none, 4, false, 3048, 3046, 3047, 1004),
  (⟨rk4, "cutBetween", "(LTornFringes$Chart;II)V"⟩, prog_6_method_5_code, 8, none, 4, false, 3073, 3072, 9, 1004),
  (⟨rk4, "cutToBorder", "(LTornFringes$Chart;I)V"⟩, prog_6_method_6_code, 6, none, 4, false, 3058, 3057, 6, 1004),
  (⟨rk4, "goAlongRow", "(LTornFringes$Chart;III)V"⟩, prog_6_method_7_code, 6, none, 4, false, 3069, 3068, 8, 1004),
  (⟨rk4, "goAlongColumn", "(LTornFringes$Chart;III)V"⟩, prog_6_method_8_code, 6, none, 4, false, 3065, 3064, 7, 1004),
  (⟨rk5, "<init>", "()V"⟩, prog_7_method_1_code, 1, none, 5, false, 1103, 1102, 0, 1005),
  (⟨rk5, "clear", "()V"⟩, prog_7_method_2_code, 1, none, 5, false, 2226, 2224, 2225, 1005),
  (⟨rk5, "copyFrom", "(LTornFringes$Lay;)V"⟩, prog_7_method_3_code, 2, none, 5, false, 2142, 2140, 2141, 1005),
  (⟨rk5, "start", "(LTornFringes$Chart;)V"⟩, prog_7_method_4_code, 2, none, 5, false, 3095, 3093, 3094, 1005),
  (⟨rk5, "advance", "(LTornFringes$Chart;LTornFringes$Front;)V"⟩, prog_7_method_5_code, 4, none, 5, false, 3154, 3152, 3153, 1005),
  (⟨rk5, "follow", "(LTornFringes$Chart;II)V"⟩, prog_7_method_6_code, 4, none, 5, false, 3166, 3165, 12, 1005),
  (⟨rk5, "openIsle", "(LTornFringes$Chart;I)V"⟩, prog_7_method_7_code, 3, none, 5, false, 3176, 3175, 14, 1005),
  (⟨rk5, "bestNotLaid", "(LTornFringes$Chart;)I"⟩, prog_7_method_8_code, 4, some .int, 5, false, 3171, 3170, 13, 1005)]
def mtab1 : List mrow := [
  (⟨rk5, "isLaid", "(I)Z"⟩, prog_7_method_9_code, 2, some .boolean, 5, false, 3136, 3134, 3135, 1005),
  (⟨rk5, "hasIsle", "(I)Z"⟩, prog_7_method_10_code, 2, some .boolean, 5, false, 3204, 3202, 3203, 1005),
  (⟨rk5, "pixelsOf", "(LTornFringes$Chart;I)I"⟩, prog_7_method_11_code, 5, some .int, 5, false, 4158, 4156, 4157, 1005),
  (⟨rk5, "depthOf", "(I)I"⟩, prog_7_method_12_code, 4, some .int, 5, false, 4147, 4145, 4146, 1005),
  (⟨rk5, "canLift", "(LTornFringes$Chart;II)Z"⟩, prog_7_method_13_code, 7, some .boolean, 5, false, 3208, 3206, 3207, 1005),
  (⟨rk5, "raise", "(LTornFringes$Chart;II)V"⟩, prog_7_method_14_code, 5, none, 5, false, 3215, 3213, 3214, 1005),
  (⟨rk6, "<init>", "()V"⟩, prog_8_method_1_code, 1, none, 6, false, 1192, 1191, 0, 1008),
  (⟨rk6, "note", "(III)V"⟩, prog_8_method_3_code, 5, none, 6, false, 3079, 3077, 3078, 1008),
  (⟨rk7, "<init>", "()V"⟩, prog_9_method_1_code, 1, none, 7, false, 1223, 1222, 0, 1010),
  (⟨rk7, "findTorn", "(LTornFringes$Chart;)V"⟩, prog_9_method_2_code, 4, none, 7, false, 2150, 2148, 2149, 1010),
  (⟨rk7, "farToTorn", "(LTornFringes$Chart;I)I"⟩, prog_9_method_3_code, 5, some .int, 7, false, 2205, 2203, 2204, 1010),
  (⟨rk7, "canPair", "(LTornFringes$Chart;I)Z"⟩, prog_9_method_4_code, 3, some .boolean, 7, false, 2234, 2232, 2233, 1010),
  (⟨rk7, "pair", "(LTornFringes$Chart;I)V"⟩, prog_9_method_5_code, 3, none, 7, false, 2239, 2237, 2238, 1010),
  (⟨rk7, "tell", "(LTornFringes$Chart;LTornFringes$Joining;)V"⟩, prog_9_method_6_code, 4, none, 7, false, 3039, 3037, 3038, 1010),
  (⟨rk7, "pairNearest", "(LTornFringes$Chart;)V"⟩, prog_9_method_7_code, 4, none, 7, false, 3003, 3002, 2, 1010),
  (⟨rk7, "pairAtFar", "(LTornFringes$Chart;II)V"⟩, prog_9_method_8_code, 5, none, 7, false, 3007, 3006, 3, 1010),
  (⟨rk7, "pairLeast", "(LTornFringes$Chart;)V"⟩, prog_9_method_9_code, 5, none, 7, false, 3016, 3015, 4, 1010),
  (⟨rk7, "leastMate", "(LTornFringes$Chart;II)I"⟩, prog_9_method_10_code, 7, some .int, 7, false, 3029, 3028, 5, 1010),
  (⟨rk7, "leastFars", "(LTornFringes$Pairing;LTornFringes$Chart;II)I"⟩, prog_9_method_11_code, 9, some .int, 7, true, 3032, 3031, 0, 1010),
  (⟨rk7, "isIn", "(II)Z"⟩, prog_9_method_12_code, 2, some .boolean, 7, true, 3025, 3024, 0, 1010),
  (⟨rk7, "without", "(II)I"⟩, prog_9_method_13_code, 2, some .int, 7, true, 3035, 3034, 0, 1010),
  (⟨rk8, "<init>", "()V"⟩, prog_10_method_1_code, 1, none, 8, false, 2030, 2029, 0, 1012),
  (⟨rk8, "gather", "(LTornFringes$Chart;LTornFringes$Lay;)V"⟩, prog_10_method_2_code, 4, none, 8, false, 3228, 3226, 3227, 1012),
  (⟨rk8, "gatherEdge", "(LTornFringes$Chart;LTornFringes$Lay;II)V"⟩, prog_10_method_3_code, 8, none, 8, false, 3236, 3235, 16, 1012),
  (⟨rk8, "insert", "(II)V"⟩, prog_10_method_4_code, 4, none, 8, false, 4010, 4009, 17, 1012),
  (⟨rk8, "pairOf", "(II)I"⟩, prog_10_method_5_code, 2, some .int, 8, true, 4000, 3239, 0, 1012),
  (⟨rk8, "turnsLacking", "(LTornFringes$Chart;LTornFringes$Lay;II)I"⟩, prog_10_method_6_code, 6, some .int, 8, true, 4003, 4002, 0, 1012),
  (⟨rk8, "endOfPair", "(II)I"⟩, prog_10_method_8_code, 4, some .int, 8, false, 4018, 4017, 19, 1012),
  (⟨rk8, "fitWithin", "(III)V"⟩, prog_10_method_9_code, 7, none, 8, false, 4022, 4021, 20, 1012),
  (⟨rk8, "isNearer", "(II)Z"⟩, prog_10_method_10_code, 4, some .boolean, 8, true, 4025, 4024, 0, 1012),
  (⟨rk8, "uniteAll", "(LTornFringes$Chart;LTornFringes$Lay;)I"⟩, prog_10_method_11_code, 8, some .int, 8, false, 3224, 3222, 3223, 1012),
  (⟨rk8, "findBest", "()I"⟩, prog_10_method_12_code, 6, some .int, 8, false, 4014, 4013, 18, 1012),
  (⟨rk8, "liftGroup", "(LTornFringes$Chart;LTornFringes$Lay;I)Z"⟩, prog_10_method_13_code, 5, some .boolean, 8, false, 4030, 4029, 21, 1012),
  (⟨rk8, "unite", "(LTornFringes$Lay;II)V"⟩, prog_10_method_14_code, 5, none, 8, false, 4036, 4035, 22, 1012),
  (⟨rk9, "<init>", "()V"⟩, prog_11_method_1_code, 1, none, 9, false, 1206, 1205, 0, 1009),
  (⟨rk10, "<init>", "(LTornFringes$Chart;)V"⟩, prog_12_method_1_code, 2, none, 10, false, 1072, 1071, 0, 1002),
  (⟨rk10, "copyFrom", "(LTornFringes$Whole;)V"⟩, prog_12_method_2_code, 2, none, 10, false, 2126, 2124, 2125, 1002),
  (⟨rk10, "tellMap", "(II)V"⟩, prog_12_method_3_code, 3, none, 10, false, 4106, 4104, 4105, 1002),
  (⟨rk10, "isCut", "(I)Z"⟩, prog_12_method_4_code, 2, some .boolean, 10, false, 3127, 3125, 3126, 1002),
  (⟨rk10, "countCut", "()I"⟩, prog_12_method_5_code, 3, some .int, 10, false, 4079, 4077, 4078, 1002),
  (⟨rk10, "isJump", "(I)Z"⟩, prog_12_method_6_code, 2, some .boolean, 10, false, 3187, 3185, 3186, 1002),
  (⟨rk10, "isTear", "(I)Z"⟩, prog_12_method_7_code, 2, some .boolean, 10, false, 4057, 4055, 4056, 1002),
  (⟨rk10, "differs", "(I)Z"⟩, prog_12_method_8_code, 4, some .boolean, 10, false, 3192, 3191, 15, 1002),
  (⟨rk10, "countJumps", "()I"⟩, prog_12_method_9_code, 3, some .int, 10, false, 3181, 3179, 3180, 1002),
  (⟨rk10, "countTears", "()I"⟩, prog_12_method_10_code, 3, some .int, 10, false, 4083, 4081, 4082, 1002),
  (⟨rk10, "edgesOutOf", "(I)I"⟩, prog_12_method_11_code, 6, some .int, 10, false, 4162, 4160, 4161, 1002),
  (⟨rk11, "<init>", "()V"⟩, prog_1_method_1_code, 1, none, 11, false, 1020, 1019, 0, 1001),
  (⟨rk11, "size", "(II)Z"⟩, prog_1_method_2_code, 3, some .boolean, 11, false, 4099, 4097, 4098, 1001),
  (⟨rk11, "phase", "(II)I"⟩, prog_1_method_3_code, 3, some .int, 11, false, 4123, 4121, 4122, 1001),
  (⟨rk11, "grade", "(II)Z"⟩, prog_1_method_5_code, 3, some .boolean, 11, false, 4127, 4125, 4126, 1001)]
def mtab2 : List mrow := [
  (⟨rk11, "grades", "(I)I"⟩, prog_1_method_6_code, 4, some .int, 11, false, 2115, 2113, 2114, 1001),
  (⟨rk11, "ramp", "(II)Z"⟩, prog_1_method_7_code, 5, some .boolean, 11, false, 4117, 4115, 4116, 1001),
  (⟨rk11, "noise", "(I)Z"⟩, prog_1_method_8_code, 5, some .boolean, 11, false, 2215, 2213, 2214, 1001),
  (⟨rk11, "state", "(I)I"⟩, prog_1_method_9_code, 3, some .int, 11, false, 4113, 4111, 4112, 1001),
  (⟨rk11, "join", "(I)I"⟩, prog_1_method_10_code, 2, some .int, 11, false, 2230, 2228, 2229, 1001),
  (⟨rk11, "cut", "(IZ)Z"⟩, prog_1_method_11_code, 3, some .boolean, 11, false, 3083, 3081, 3082, 1001),
  (⟨rk11, "begin", "()I"⟩, prog_1_method_12_code, 1, some .int, 11, false, 3091, 3089, 3090, 1001),
  (⟨rk11, "step", "(I)I"⟩, prog_1_method_13_code, 4, some .int, 11, false, 3105, 3103, 3104, 1001),
  (⟨rk11, "lift", "(II)Z"⟩, prog_1_method_14_code, 3, some .boolean, 11, false, 3200, 3198, 3199, 1001),
  (⟨rk11, "settle", "()I"⟩, prog_1_method_15_code, 2, some .int, 11, false, 3219, 3217, 3218, 1001),
  (⟨rk11, "pixel", "(II)I"⟩, prog_1_method_20_code, 4, some .int, 11, false, 4143, 4141, 4142, 1001),
  (⟨rk11, "height", "(I)I"⟩, prog_1_method_21_code, 2, some .int, 11, false, 4040, 4038, 4039, 1001),
  (⟨rk11, "edge", "(II)I"⟩, prog_1_method_22_code, 4, some .int, 11, false, 4047, 4045, 4046, 1001),
  (⟨rk11, "torn", "(I)I"⟩, prog_1_method_24_code, 2, some .int, 11, false, 4063, 4061, 4062, 1001),
  (⟨rk11, "island", "(II)I"⟩, prog_1_method_28_code, 3, some .int, 11, false, 4154, 4152, 4153, 1001),
  (⟨rk11, "way", "(II)I"⟩, prog_1_method_36_code, 5, some .int, 11, false, 4166, 4164, 4165, 1001),
  (⟨rk11, "look", "(I)I"⟩, prog_1_method_42_code, 2, some .int, 11, false, 4067, 4065, 4066, 1001),
  (⟨rk11, "isSide", "(I)Z"⟩, prog_1_method_43_code, 1, some .boolean, 11, true, 4102, 4101, 0, 1001),
  (⟨rk11, "draw", "(I)I"⟩, prog_1_method_44_code, 2, some .int, 11, false, 2219, 2218, 1, 1001),
  (⟨rk11, "gradeBy", "(II)I"⟩, prog_1_method_45_code, 3, some .int, 11, false, 2187, 2186, 0, 1001),
  (⟨rk13, "rangeCheck", "(III)V"⟩, prog_17_method_30_code, 3, none, 13, true, 3022, 3021, 0, 1006),
  (⟨rk13, "fill", "([II)V"⟩, prog_17_method_103_code, 4, none, 13, true, 1107, 1106, 0, 1006),
  (⟨rk13, "fill", "([IIII)V"⟩, prog_17_method_104_code, 5, none, 13, true, 3019, 3018, 0, 1006),
  (⟨rk14, "cell", "([II)I"⟩, method_2_code, 2, some .int, 14, true, 4087, 4086, 0, 1000),
  (⟨rk14, "between", "(III)I"⟩, method_3_code, 3, some .int, 14, true, 4091, 4090, 0, 1000),
  (⟨rk14, "map", "(LTornFringes;[I)I"⟩, method_4_code, 7, some .int, 14, true, 4095, 4094, 0, 1000),
  (⟨rk14, "isEdge", "(LTornFringes;I)Z"⟩, method_5_code, 2, some .boolean, 14, true, 4130, 4129, 0, 1000),
  (⟨rk14, "greater", "(LTornFringes;I)I"⟩, method_6_code, 2, some .int, 14, true, 4133, 4132, 0, 1000),
  (⟨rk14, "wrapped", "(I)I"⟩, method_7_code, 2, some .int, 14, true, 4150, 4149, 0, 1000),
  (⟨rk14, "isCut", "(LTornFringes;I)Z"⟩, method_8_code, 2, some .boolean, 14, true, 4136, 4135, 0, 1000),
  (⟨rk14, "isLaid", "(LTornFringes;I)Z"⟩, method_10_code, 5, some .boolean, 14, true, 4139, 4138, 0, 1000),
  (⟨rk14, "law", "([I)Z"⟩, code, 15, some .boolean, 14, true, 0, 0, 0, 0)]
def mtabs : List (List mrow) := [mtab0, mtab1, mtab2]
def mrow0 : mrow := (⟨"", "", ""⟩, ⟨#[]⟩, 0, none, 0, false, 0, 0, 0, 0)
def mro (k : Nat) : mrow := (mtabs.getD (k / 50) []).getD (k % 50) mrow0
def mname (k : Nat) : MethodName := (mro k).1
def mcode (k : Nat) : ByteArray := (mro k).2.1
def mmaxl (k : Nat) : Nat := (mro k).2.2.1
def mret (k : Nat) : Option FieldType := (mro k).2.2.2.1
def mcls (k : Nat) : Nat := (mro k).2.2.2.2.1
def mstat (k : Nat) : Bool := (mro k).2.2.2.2.2.1
abbrev prow : Type := Nat × (Nat × Nat × Nat) × Nat
def ptab0 : List prow := [(3, (7, 0, 0), 1174), (9, (5, 10, 3), 1175), (11, (3, 0, 2), 1180), (17, (1, 0, 1), 1179), (21, (5, 2, 6), 2120), (23, (4, 3, 0), 2121), (24, (4, 85, 1), 2122), (27, (4, 86, 1), 2123), (31, (1, 0, 0), 1177), (34, (9, 0, 0), 2144)]
def ptab1 : List prow := [(3, (7, 0, 0), 2056), (9, (3, 1, 3), 2057), (15, (3, 1, 4), 2058)]
def ptab2 : List prow := [(3, (7, 0, 0), 1031), (9, (3, 2, 2), 1042), (15, (3, 2, 3), 1045), (18, (3, 2, 4), 1049), (22, (3, 2, 5), 1052), (25, (4, 4, 2), 1032), (29, (1, 2, 0), 1036), (33, (1, 2, 1), 1039), (36, (6, 0, 0), 2131), (42, (4, 6, 0), 2163), (46, (4, 8, 1), 2168), (50, (4, 7, 1), 2164), (53, (4, 9, 1), 2159), (57, (4, 12, 1), 3116), (60, (4, 13, 1), 3120), (63, (4, 15, 1), 2180), (66, (4, 16, 2), 2176), (70, (4, 11, 1), 4074), (73, (4, 21, 1), 4075), (76, (10, 0, 0), 2196), (81, (9, 0, 0), 3012), (84, (4, 24, 1), 3053), (87, (4, 23, 2), 3054), (90, (4, 18, 2), 2192), (93, (8, 0, 0), 2199)]
def ptab3 : List prow := [(3, (7, 0, 0), 2008), (9, (3, 3, 0), 2009), (15, (3, 3, 1), 2010), (19, (3, 3, 2), 2012), (22, (3, 3, 3), 2013), (25, (3, 10, 0), 1156), (31, (4, 6, 0), 3110), (37, (4, 10, 1), 3111), (41, (4, 14, 1), 3112), (44, (4, 88, 1), 3124), (47, (1, 3, 4), 2014), (51, (4, 121, 2), 3132), (57, (3, 10, 2), 1160), (61, (4, 50, 1), 3133), (66, (4, 30, 3), 3137), (70, (4, 18, 2), 3141), (74, (4, 19, 2), 3142), (77, (3, 2, 3), 1046), (80, (9, 0, 0), 3146), (85, (4, 31, 3), 3147), (89, (4, 33, 2), 3159)]
def ptab4 : List prow := [(3, (7, 0, 0), 1079), (9, (3, 4, 2), 1083), (15, (3, 4, 3), 1084), (18, (3, 4, 4), 1085), (21, (1, 4, 0), 1080), (25, (1, 4, 1), 1081), (28, (4, 121, 2), 3044), (34, (6, 0, 0), 2138), (40, (4, 25, 2), 3049), (46, (4, 39, 2), 3055), (50, (4, 38, 3), 3070), (54, (4, 7, 1), 3059), (58, (4, 8, 1), 3060), (61, (9, 0, 0), 3074), (66, (8, 0, 0), 3075), (69, (4, 40, 4), 3066), (73, (4, 41, 4), 3062), (76, (4, 24, 1), 3061), (79, (1, 2, 0), 1037), (82, (1, 2, 1), 1040)]
def ptab5 : List prow := [(3, (7, 0, 0), 1104), (9, (3, 5, 4), 1117), (15, (3, 5, 5), 1121), (18, (3, 5, 6), 1123), (21, (3, 5, 7), 1127), (24, (3, 5, 8), 1129), (27, (3, 5, 9), 1131), (30, (4, 121, 2), 1105), (36, (2, 5, 0), 1108), (40, (1, 5, 1), 1110), (44, (1, 5, 2), 1112), (47, (1, 5, 3), 1114), (50, (6, 0, 0), 2143), (56, (4, 43, 0), 3096), (59, (4, 6, 0), 3097), (65, (4, 20, 0), 3098), (68, (4, 32, 0), 3155), (73, (3, 3, 1), 2011), (76, (4, 47, 3), 3163), (80, (4, 49, 1), 3168), (84, (4, 48, 2), 3173), (88, (4, 30, 3), 3177), (92, (4, 16, 2), 3167), (96, (3, 2, 2), 1044), (99, (4, 50, 1), 3172), (103, (3, 2, 4), 1050), (107, (3, 2, 3), 1048)]
def ptab6 : List prow := [(3, (7, 0, 0), 1193), (9, (3, 6, 1), 1196), (15, (1, 6, 0), 1194)]
def ptab7 : List prow := [(3, (7, 0, 0), 1224), (9, (3, 7, 1), 1227), (15, (3, 7, 2), 1229), (18, (3, 7, 3), 1230), (21, (3, 7, 4), 1231), (24, (1, 7, 0), 1225), (28, (4, 6, 0), 2151), (34, (4, 11, 1), 2155), (38, (4, 21, 1), 2172), (42, (4, 23, 2), 2206), (46, (9, 0, 0), 2210), (51, (4, 59, 1), 2235), (55, (4, 64, 1), 3000), (58, (4, 66, 1), 3013), (61, (4, 35, 0), 3040), (66, (4, 37, 3), 3045), (70, (4, 65, 3), 3004), (73, (4, 24, 1), 3008), (76, (4, 122, 4), 3017), (82, (4, 69, 2), 3023), (86, (4, 67, 3), 3026), (90, (4, 70, 2), 3033), (93, (4, 68, 4), 3030)]
def ptab8 : List prow := [(5, (7, 0, 0), 2031), (11, (3, 8, 3), 2035), (17, (3, 8, 4), 2036), (20, (3, 8, 5), 2037), (23, (1, 8, 2), 2034), (27, (4, 6, 0), 3229), (33, (4, 10, 1), 3230), (37, (4, 12, 1), 3231), (41, (4, 13, 1), 3232), (44, (4, 73, 4), 3233), (48, (4, 50, 1), 3237), (53, (3, 5, 6), 1124), (56, (4, 75, 2), 3238), (60, (4, 76, 4), 4001), (64, (4, 74, 2), 4007), (68, (4, 16, 2), 4004), (71, (3, 5, 4), 1118), (85, (4, 77, 2), 4015), (88, (4, 78, 3), 4019), (92, (1, 8, 0), 2032), (95, (1, 8, 1), 2033), (98, (4, 79, 2), 4023), (102, (10, 0, 0), 4026), (105, (1, 5, 3), 1115), (108, (4, 72, 2), 3225), (112, (4, 81, 0), 4011), (115, (4, 82, 3), 4027), (119, (4, 83, 3), 4033), (123, (4, 54, 3), 4031), (127, (4, 55, 3), 4032)]
def ptab9 : List prow := [(3, (7, 0, 0), 1207), (9, (3, 9, 3), 1209)]
def ptab10 : List prow := [(3, (7, 0, 0), 1073), (9, (3, 10, 0), 1154), (15, (5, 4, 5), 1074), (17, (4, 34, 0), 1076), (18, (3, 10, 1), 1157), (22, (5, 5, 10), 1099), (24, (4, 42, 0), 1101), (25, (3, 10, 2), 1159), (29, (4, 5, 1), 2127), (35, (4, 36, 1), 2134), (38, (4, 44, 1), 2139), (41, (4, 4, 2), 4107), (45, (4, 35, 0), 4108), (48, (4, 43, 0), 4109), (49, (3, 2, 5), 1053), (53, (3, 4, 4), 1086), (57, (4, 6, 0), 3182), (61, (4, 88, 1), 3188), (65, (4, 92, 1), 3189), (68, (3, 5, 6), 1125), (71, (4, 12, 1), 3193), (75, (4, 13, 1), 3194), (78, (4, 50, 1), 3195), (81, (3, 5, 4), 1119), (84, (4, 16, 2), 3196), (88, (4, 10, 1), 3183), (91, (4, 90, 1), 3184), (94, (4, 91, 1), 4084)]
def ptab11 : List prow := [(3, (7, 0, 0), 1021), (9, (5, 10, 3), 1024), (11, (5, 2, 6), 1026), (13, (4, 3, 0), 1028), (14, (4, 85, 1), 1070), (17, (3, 11, 0), 2072), (21, (3, 10, 0), 1155), (25, (3, 11, 1), 2073), (28, (5, 0, 3), 1169), (30, (4, 0, 0), 1171), (31, (3, 11, 2), 2074), (35, (5, 6, 2), 1188), (37, (4, 56, 0), 1190), (38, (3, 11, 3), 2075), (42, (5, 9, 4), 1202), (44, (4, 84, 0), 1204), (45, (3, 11, 4), 2076), (49, (5, 7, 5), 1219), (51, (4, 58, 0), 1221), (52, (3, 11, 5), 2077), (56, (5, 3, 5), 2003), (58, (4, 27, 0), 2005), (59, (3, 11, 6), 2078), (63, (5, 8, 6), 2026), (65, (4, 71, 0), 2028), (66, (3, 11, 7), 2079), (70, (5, 1, 6), 2051), (72, (4, 2, 0), 2053), (73, (3, 11, 8), 2080), (77, (1, 11, 10), 2082), (81, (4, 117, 1), 4100), (85, (4, 1, 1), 2116), (89, (4, 87, 2), 4103), (93, (4, 9, 1), 4041), (96, (3, 2, 2), 1043), (100, (4, 15, 1), 2222), (104, (3, 10, 2), 1161), (108, (4, 43, 0), 2223), (113, (3, 2, 4), 1051), (117, (3, 2, 3), 1047), (120, (4, 59, 1), 2147), (123, (4, 6, 0), 2183), (127, (4, 119, 2), 2184), (131, (4, 7, 1), 4118), (134, (4, 8, 1), 4119), (137, (4, 118, 1), 2216), (140, (1, 11, 9), 2081), (143, (4, 61, 2), 2231), (147, (4, 62, 2), 2236), (151, (3, 10, 1), 1158), (155, (4, 63, 2), 3036), (159, (1, 7, 0), 1226), (162, (1, 4, 1), 1082), (167, (4, 57, 3), 3076), (171, (4, 10, 1), 3084), (174, (3, 2, 5), 1054), (177, (4, 45, 1), 3092), (180, (1, 5, 1), 1111), (183, (2, 5, 0), 1109), (187, (4, 28, 1), 3106), (190, (4, 29, 1), 3128), (193, (1, 5, 3), 1116), (196, (4, 46, 2), 3151), (200, (3, 5, 8), 1130), (203, (4, 93, 0), 3178), (206, (4, 51, 1), 3201), (209, (4, 54, 3), 3205), (213, (4, 55, 3), 3212), (217, (4, 44, 1), 3220), (221, (4, 80, 2), 3221), (225, (1, 9, 0), 1208), (243, (4, 50, 1), 4042), (246, (3, 5, 5), 1122), (249, (3, 5, 6), 1126), (252, (4, 53, 1), 4144), (255, (3, 5, 7), 1128), (259, (3, 5, 4), 1120), (262, (4, 17, 1), 4048), (265, (4, 14, 1), 4052), (268, (3, 4, 4), 1087), (271, (4, 90, 1), 4053), (274, (4, 91, 1), 4054), (277, (4, 12, 1), 4058), (280, (4, 13, 1), 4059), (283, (9, 0, 0), 2211), (294, (3, 7, 1), 1228), (313, (1, 2, 0), 1038), (314, (1, 2, 1), 1041), (323, (4, 52, 2), 4155), (327, (3, 5, 9), 1132), (330, (4, 95, 1), 4159), (382, (4, 94, 0), 4080), (395, (1, 0, 0), 1178), (419, (4, 20, 0), 4068), (422, (4, 113, 1), 4069), (425, (4, 22, 0), 4070), (428, (4, 89, 0), 4076), (431, (1, 5, 2), 1113), (434, (1, 6, 0), 1195), (439, (4, 26, 1), 2188), (442, (4, 60, 2), 2202)]
def ptab12 : List prow := []
def ptab13 : List prow := [(13, (4, 120, 3), 3020)]
def ptab14 : List prow := [(9, (4, 123, 2), 4085), (15, (4, 124, 3), 4089), (19, (4, 97, 2), 4096), (20, (5, 11, 14), 1016), (25, (4, 103, 1), 4110), (29, (4, 101, 2), 4114), (32, (4, 102, 1), 2212), (36, (4, 98, 2), 4120), (40, (4, 99, 2), 4124), (43, (4, 112, 2), 4044), (46, (4, 116, 1), 4064), (49, (4, 96, 0), 1018), (50, (4, 125, 2), 4093), (54, (4, 113, 1), 4060), (57, (4, 104, 1), 2227), (60, (4, 105, 2), 3080), (64, (4, 100, 1), 2112), (67, (4, 106, 0), 3088), (71, (4, 107, 1), 3102), (74, (4, 130, 2), 4137), (78, (4, 108, 2), 3197), (81, (4, 109, 0), 3216), (84, (4, 126, 2), 4128), (87, (4, 127, 2), 4131), (91, (4, 111, 1), 4037), (94, (4, 129, 2), 4134), (97, (4, 110, 2), 4140), (100, (4, 128, 1), 4148), (103, (4, 114, 2), 4151), (106, (4, 115, 2), 4163)]
def ptabs : List (List prow) := [ptab0, ptab1, ptab2, ptab3, ptab4, ptab5, ptab6, ptab7, ptab8, ptab9, ptab10, ptab11, ptab12, ptab13, ptab14]
def pfind (l : List prow) (idx : Nat) : Option (Nat × Nat × Nat) := (l.find? (fun r => r.1 == idx)).map (fun r => r.2.1)
def pool (c idx : Nat) : Option (Nat × Nat × Nat) := pfind (ptabs.getD c []) idx
def ctabs : List (List (Nat × Int × Nat)) := [[], [], [], [], [], [], [], [], [(76, -2147483648, 4006)], [], [], [(437, 1664525, 2220), (438, 1013904223, 2221), (258, -100000000, 4043)], [], [], [(7, 1431655781, 4088), (8, 2147483647, 4092)]]
def cst (c idx : Nat) : Option Int := ((ctabs.getD c []).find? (fun r => r.1 == idx)).map (fun r => r.2.1)
def ltabs : List (List (Nat × Int × Nat)) := [[], [], [], [], [], [(110, 255, 3209), (114, -2147483648, 3210), (116, 2147483647, 3211)], [], [], [(74, 255, 4005)], [], [], [], [], [], []]
def csl (c idx : Nat) : Option Int := ((ltabs.getD c []).find? (fun r => r.1 == idx)).map (fun r => r.2.1)
def lwc : List (List Cond) := [k2_sels lw_privs, tables_1_1, tables_1_2, tables_1_3, tables_1_4]
