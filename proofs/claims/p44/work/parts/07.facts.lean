/-! what the tables hold, checked by program -/
/-- the words that may be handed on to a call -/
def gtl : List Cond := lw_tbl.filter goodWord
def tb_at (i : Nat) (w : Cond) : Bool := decide ((lwc.getD (i / 1000) [])[i % 1000]? = some w) && goodWord w
theorem lwc_in {l : List Cond} {w : Cond} (hl : l ∈ lwc) (hw : w ∈ l) : w ∈ lw_tbl := by
  unfold lw_tbl tables_1
  simp only [lwc, List.mem_cons, List.not_mem_nil, or_false] at hl
  simp only [List.mem_append]
  rcases hl with h | h | h | h | h <;> subst h <;> simp [hw]
theorem gtl_of {w : Cond} (h : w ∈ lw_tbl) (hg : goodWord w = true) : w ∈ gtl := List.mem_filter.mpr ⟨h, hg⟩
theorem tb_in {i : Nat} {w : Cond} (h : tb_at i w = true) : w ∈ gtl := by
  unfold tb_at at h
  rw [Bool.and_eq_true] at h
  have h1 := of_decide_eq_true h.1
  refine gtl_of ?_ h.2
  have hm := List.mem_of_getElem? h1
  rcases Nat.lt_or_ge (i / 1000) lwc.length with q | q
  · rw [List.getD_eq_getElem?_getD, List.getElem?_eq_getElem q] at hm
    exact lwc_in (List.getElem_mem q) hm
  · rw [List.getD_eq_getElem?_getD, List.getElem?_eq_none q] at hm
    cases hm
def nPar (d : String) : Option Nat := (parseMethodDescriptor d).map (fun d => d.parameters.length)
def chkM (q : mrow) : Bool :=
  let y := q.1
  let c := q.2.2.2.2.1
  let s := q.2.2.2.2.2.1
  decide (y.cls = cn c) && plainName y.cls && tb_at q.2.2.2.2.2.2.2.2.2 (Cond.initialized y.cls) &&
  (if s then tb_at q.2.2.2.2.2.2.2.1 (Cond.static y) else tb_at q.2.2.2.2.2.2.2.1 (Cond.instanceMethod y)) &&
  (if s || (y.name == "<init>") then true else tb_at q.2.2.2.2.2.2.2.2.1 (Cond.selects y.cls y y)) &&
  decide (y.cls ≠ "java/lang/invoke/MethodHandle") && decide (y.cls ≠ "java/lang/invoke/VarHandle") && decide (q.2.2.1 ≤ 20) && (if y.name == "<init>" then decide (q.2.2.2.1 = none) else true) && (s || decide (c < 12))
theorem kc0 : Cond.code (mname 0) (mcode 0) (mmaxl 0) (mret 0) ∈ lw_tbl := lwc_in (l := tables_1_1) (List.mem_of_getElem? (i := 1) rfl) (List.mem_of_getElem? (i := 173) (show tables_1_1[173]? = some (Cond.code ⟨"TornFringes$Acts", "<init>", "()V"⟩ prog_2_method_1_code 1 (none)) from rfl))
theorem kc1 : Cond.code (mname 1) (mcode 1) (mmaxl 1) (mret 1) ∈ lw_tbl := lwc_in (l := tables_1_2) (List.mem_of_getElem? (i := 2) rfl) (List.mem_of_getElem? (i := 119) (show tables_1_2[119]? = some (Cond.code ⟨"TornFringes$Acts", "keep", "(LTornFringes$Whole;)V"⟩ prog_2_method_2_code 2 (none)) from rfl))
theorem kc2 : Cond.code (mname 2) (mcode 2) (mmaxl 2) (mret 2) ∈ lw_tbl := lwc_in (l := tables_1_2) (List.mem_of_getElem? (i := 2) rfl) (List.mem_of_getElem? (i := 55) (show tables_1_2[55]? = some (Cond.code ⟨"TornFringes$Areas", "<init>", "()V"⟩ prog_3_method_1_code 1 (none)) from rfl))
theorem kc3 : Cond.code (mname 3) (mcode 3) (mmaxl 3) (mret 3) ∈ lw_tbl := lwc_in (l := tables_1_1) (List.mem_of_getElem? (i := 1) rfl) (List.mem_of_getElem? (i := 30) (show tables_1_1[30]? = some (Cond.code ⟨"TornFringes$Chart", "<init>", "()V"⟩ prog_4_method_1_code 1 (none)) from rfl))
theorem kc4 : Cond.code (mname 4) (mcode 4) (mmaxl 4) (mret 4) ∈ lw_tbl := lwc_in (l := tables_1_1) (List.mem_of_getElem? (i := 1) rfl) (List.mem_of_getElem? (i := 35) (show tables_1_1[35]? = some (Cond.code ⟨"TornFringes$Chart", "reset", "(II)V"⟩ prog_4_method_2_code 4 (none)) from rfl))
theorem kc5 : Cond.code (mname 5) (mcode 5) (mmaxl 5) (mret 5) ∈ lw_tbl := lwc_in (l := tables_1_2) (List.mem_of_getElem? (i := 2) rfl) (List.mem_of_getElem? (i := 130) (show tables_1_2[130]? = some (Cond.code ⟨"TornFringes$Chart", "copyFrom", "(LTornFringes$Chart;)V"⟩ prog_4_method_3_code 2 (none)) from rfl))
theorem kc6 : Cond.code (mname 6) (mcode 6) (mmaxl 6) (mret 6) ∈ lw_tbl := lwc_in (l := tables_1_2) (List.mem_of_getElem? (i := 2) rfl) (List.mem_of_getElem? (i := 154) (show tables_1_2[154]? = some (Cond.code ⟨"TornFringes$Chart", "pixels", "()I"⟩ prog_4_method_4_code 1 (some .int)) from rfl))
theorem kc7 : Cond.code (mname 7) (mcode 7) (mmaxl 7) (mret 7) ∈ lw_tbl := lwc_in (l := tables_1_2) (List.mem_of_getElem? (i := 2) rfl) (List.mem_of_getElem? (i := 167) (show tables_1_2[167]? = some (Cond.code ⟨"TornFringes$Chart", "rowOf", "(I)I"⟩ prog_4_method_5_code 2 (some .int)) from rfl))
theorem kc8 : Cond.code (mname 8) (mcode 8) (mmaxl 8) (mret 8) ∈ lw_tbl := lwc_in (l := tables_1_2) (List.mem_of_getElem? (i := 2) rfl) (List.mem_of_getElem? (i := 171) (show tables_1_2[171]? = some (Cond.code ⟨"TornFringes$Chart", "colOf", "(I)I"⟩ prog_4_method_6_code 2 (some .int)) from rfl))
theorem kc9 : Cond.code (mname 9) (mcode 9) (mmaxl 9) (mret 9) ∈ lw_tbl := lwc_in (l := tables_1_2) (List.mem_of_getElem? (i := 2) rfl) (List.mem_of_getElem? (i := 162) (show tables_1_2[162]? = some (Cond.code ⟨"TornFringes$Chart", "hasPixel", "(I)Z"⟩ prog_4_method_7_code 2 (some .boolean)) from rfl))
theorem kc10 : Cond.code (mname 10) (mcode 10) (mmaxl 10) (mret 10) ∈ lw_tbl := lwc_in (l := tables_1_3) (List.mem_of_getElem? (i := 3) rfl) (List.mem_of_getElem? (i := 87) (show tables_1_3[87]? = some (Cond.code ⟨"TornFringes$Chart", "hasEdge", "(I)Z"⟩ prog_4_method_8_code 3 (some .boolean)) from rfl))
theorem kc11 : Cond.code (mname 11) (mcode 11) (mmaxl 11) (mret 11) ∈ lw_tbl := lwc_in (l := tables_1_2) (List.mem_of_getElem? (i := 2) rfl) (List.mem_of_getElem? (i := 158) (show tables_1_2[158]? = some (Cond.code ⟨"TornFringes$Chart", "hasRing", "(I)Z"⟩ prog_4_method_9_code 2 (some .boolean)) from rfl))
theorem kc12 : Cond.code (mname 12) (mcode 12) (mmaxl 12) (mret 12) ∈ lw_tbl := lwc_in (l := tables_1_3) (List.mem_of_getElem? (i := 3) rfl) (List.mem_of_getElem? (i := 119) (show tables_1_3[119]? = some (Cond.code ⟨"TornFringes$Chart", "tail", "(I)I"⟩ prog_4_method_10_code 2 (some .int)) from rfl))
theorem kc13 : Cond.code (mname 13) (mcode 13) (mmaxl 13) (mret 13) ∈ lw_tbl := lwc_in (l := tables_1_3) (List.mem_of_getElem? (i := 3) rfl) (List.mem_of_getElem? (i := 123) (show tables_1_3[123]? = some (Cond.code ⟨"TornFringes$Chart", "tip", "(I)I"⟩ prog_4_method_11_code 2 (some .int)) from rfl))
theorem kc14 : Cond.code (mname 14) (mcode 14) (mmaxl 14) (mret 14) ∈ lw_tbl := lwc_in (l := tables_1_3) (List.mem_of_getElem? (i := 3) rfl) (List.mem_of_getElem? (i := 115) (show tables_1_3[115]? = some (Cond.code ⟨"TornFringes$Chart", "isShut", "(I)Z"⟩ prog_4_method_12_code 2 (some .boolean)) from rfl))
theorem kc15 : Cond.code (mname 15) (mcode 15) (mmaxl 15) (mret 15) ∈ lw_tbl := lwc_in (l := tables_1_2) (List.mem_of_getElem? (i := 2) rfl) (List.mem_of_getElem? (i := 182) (show tables_1_2[182]? = some (Cond.code ⟨"TornFringes$Chart", "wrapped", "(I)I"⟩ prog_4_method_13_code 2 (some .int)) from rfl))
theorem kc16 : Cond.code (mname 16) (mcode 16) (mmaxl 16) (mret 16) ∈ lw_tbl := lwc_in (l := tables_1_2) (List.mem_of_getElem? (i := 2) rfl) (List.mem_of_getElem? (i := 179) (show tables_1_2[179]? = some (Cond.code ⟨"TornFringes$Chart", "stepFrom", "(II)I"⟩ prog_4_method_14_code 3 (some .int)) from rfl))
theorem kc17 : Cond.code (mname 17) (mcode 17) (mmaxl 17) (mret 17) ∈ lw_tbl := lwc_in (l := tables_1_4) (List.mem_of_getElem? (i := 4) rfl) (List.mem_of_getElem? (i := 51) (show tables_1_4[51]? = some (Cond.code ⟨"TornFringes$Chart", "stepOver", "(I)I"⟩ prog_4_method_15_code 2 (some .int)) from rfl))
theorem kc18 : Cond.code (mname 18) (mcode 18) (mmaxl 18) (mret 18) ∈ lw_tbl := lwc_in (l := tables_1_2) (List.mem_of_getElem? (i := 2) rfl) (List.mem_of_getElem? (i := 195) (show tables_1_2[195]? = some (Cond.code ⟨"TornFringes$Chart", "beside", "(II)I"⟩ prog_4_method_16_code 3 (some .int)) from rfl))
theorem kc19 : Cond.code (mname 19) (mcode 19) (mmaxl 19) (mret 19) ∈ lw_tbl := lwc_in (l := tables_1_3) (List.mem_of_getElem? (i := 3) rfl) (List.mem_of_getElem? (i := 145) (show tables_1_3[145]? = some (Cond.code ⟨"TornFringes$Chart", "edgeAt", "(II)I"⟩ prog_4_method_17_code 3 (some .int)) from rfl))
theorem kc20 : Cond.code (mname 20) (mcode 20) (mmaxl 20) (mret 20) ∈ lw_tbl := lwc_in (l := tables_1_3) (List.mem_of_getElem? (i := 3) rfl) (List.mem_of_getElem? (i := 101) (show tables_1_3[101]? = some (Cond.code ⟨"TornFringes$Chart", "countHidden", "()I"⟩ prog_4_method_18_code 3 (some .int)) from rfl))
theorem kc21 : Cond.code (mname 21) (mcode 21) (mmaxl 21) (mret 21) ∈ lw_tbl := lwc_in (l := tables_1_2) (List.mem_of_getElem? (i := 2) rfl) (List.mem_of_getElem? (i := 175) (show tables_1_2[175]? = some (Cond.code ⟨"TornFringes$Chart", "chargeOf", "(I)I"⟩ prog_4_method_19_code 6 (some .int)) from rfl))
theorem kc22 : Cond.code (mname 22) (mcode 22) (mmaxl 22) (mret 22) ∈ lw_tbl := lwc_in (l := tables_1_4) (List.mem_of_getElem? (i := 4) rfl) (List.mem_of_getElem? (i := 73) (show tables_1_4[73]? = some (Cond.code ⟨"TornFringes$Chart", "chargesTogether", "()I"⟩ prog_4_method_20_code 3 (some .int)) from rfl))
theorem kc23 : Cond.code (mname 23) (mcode 23) (mmaxl 23) (mret 23) ∈ lw_tbl := lwc_in (l := tables_1_2) (List.mem_of_getElem? (i := 2) rfl) (List.mem_of_getElem? (i := 209) (show tables_1_2[209]? = some (Cond.code ⟨"TornFringes$Chart", "farBetween", "(II)I"⟩ prog_4_method_21_code 3 (some .int)) from rfl))
theorem kc24 : Cond.code (mname 24) (mcode 24) (mmaxl 24) (mret 24) ∈ lw_tbl := lwc_in (l := tables_1_3) (List.mem_of_getElem? (i := 3) rfl) (List.mem_of_getElem? (i := 11) (show tables_1_3[11]? = some (Cond.code ⟨"TornFringes$Chart", "farToBorder", "(I)I"⟩ prog_4_method_22_code 5 (some .int)) from rfl))
theorem kc25 : Cond.code (mname 25) (mcode 25) (mmaxl 25) (mret 25) ∈ lw_tbl := lwc_in (l := tables_1_3) (List.mem_of_getElem? (i := 3) rfl) (List.mem_of_getElem? (i := 52) (show tables_1_3[52]? = some (Cond.code ⟨"TornFringes$Chart", "farOf", "(II)I"⟩ prog_4_method_23_code 3 (some .int)) from rfl))
theorem kc26 : Cond.code (mname 26) (mcode 26) (mmaxl 26) (mret 26) ∈ lw_tbl := lwc_in (l := tables_1_2) (List.mem_of_getElem? (i := 2) rfl) (List.mem_of_getElem? (i := 191) (show tables_1_2[191]? = some (Cond.code ⟨"TornFringes$Chart", "gradeBySteps", "(I)I"⟩ prog_4_method_24_code 6 (some .int)) from rfl))
theorem kc27 : Cond.code (mname 27) (mcode 27) (mmaxl 27) (mret 27) ∈ lw_tbl := lwc_in (l := tables_1_2) (List.mem_of_getElem? (i := 2) rfl) (List.mem_of_getElem? (i := 7) (show tables_1_2[7]? = some (Cond.code ⟨"TornFringes$Front", "<init>", "()V"⟩ prog_5_method_1_code 1 (none)) from rfl))
theorem kc28 : Cond.code (mname 28) (mcode 28) (mmaxl 28) (mret 28) ∈ lw_tbl := lwc_in (l := tables_1_3) (List.mem_of_getElem? (i := 3) rfl) (List.mem_of_getElem? (i := 109) (show tables_1_3[109]? = some (Cond.code ⟨"TornFringes$Front", "bar", "(LTornFringes$Whole;)V"⟩ prog_5_method_2_code 3 (none)) from rfl))
theorem kc29 : Cond.code (mname 29) (mcode 29) (mmaxl 29) (mret 29) ∈ lw_tbl := lwc_in (l := tables_1_3) (List.mem_of_getElem? (i := 3) rfl) (List.mem_of_getElem? (i := 131) (show tables_1_3[131]? = some (Cond.code ⟨"TornFringes$Front", "gather", "(LTornFringes$Whole;)V"⟩ prog_5_method_3_code 3 (none)) from rfl))
theorem kc30 : Cond.code (mname 30) (mcode 30) (mmaxl 30) (mret 30) ∈ lw_tbl := lwc_in (l := tables_1_3) (List.mem_of_getElem? (i := 3) rfl) (List.mem_of_getElem? (i := 140) (show tables_1_3[140]? = some (Cond.code ⟨"TornFringes$Front", "spread", "(LTornFringes$Chart;LTornFringes$Lay;I)V"⟩ prog_5_method_4_code 6 (none)) from rfl))
theorem kc31 : Cond.code (mname 31) (mcode 31) (mmaxl 31) (mret 31) ∈ lw_tbl := lwc_in (l := tables_1_3) (List.mem_of_getElem? (i := 3) rfl) (List.mem_of_getElem? (i := 150) (show tables_1_3[150]? = some (Cond.code ⟨"TornFringes$Front", "offer", "(III)V"⟩ prog_5_method_5_code 4 (none)) from rfl))
theorem kc32 : Cond.code (mname 32) (mcode 32) (mmaxl 32) (mret 32) ∈ lw_tbl := lwc_in (l := tables_1_3) (List.mem_of_getElem? (i := 3) rfl) (List.mem_of_getElem? (i := 158) (show tables_1_3[158]? = some (Cond.code ⟨"TornFringes$Front", "takeBest", "()I"⟩ prog_5_method_6_code 3 (some .int)) from rfl))
theorem kc33 : Cond.code (mname 33) (mcode 33) (mmaxl 33) (mret 33) ∈ lw_tbl := lwc_in (l := tables_1_3) (List.mem_of_getElem? (i := 3) rfl) (List.mem_of_getElem? (i := 162) (show tables_1_3[162]? = some (Cond.code ⟨"TornFringes$Front", "isBetter", "(II)Z"⟩ prog_5_method_7_code 3 (some .boolean)) from rfl))
theorem kc34 : Cond.code (mname 34) (mcode 34) (mmaxl 34) (mret 34) ∈ lw_tbl := lwc_in (l := tables_1_1) (List.mem_of_getElem? (i := 1) rfl) (List.mem_of_getElem? (i := 78) (show tables_1_1[78]? = some (Cond.code ⟨"TornFringes$Joining", "<init>", "()V"⟩ prog_6_method_1_code 1 (none)) from rfl))
theorem kc35 : Cond.code (mname 35) (mcode 35) (mmaxl 35) (mret 35) ∈ lw_tbl := lwc_in (l := tables_1_3) (List.mem_of_getElem? (i := 3) rfl) (List.mem_of_getElem? (i := 43) (show tables_1_3[43]? = some (Cond.code ⟨"TornFringes$Joining", "clear", "()V"⟩ prog_6_method_2_code 1 (none)) from rfl))
theorem kc36 : Cond.code (mname 36) (mcode 36) (mmaxl 36) (mret 36) ∈ lw_tbl := lwc_in (l := tables_1_2) (List.mem_of_getElem? (i := 2) rfl) (List.mem_of_getElem? (i := 137) (show tables_1_2[137]? = some (Cond.code ⟨"TornFringes$Joining", "copyFrom", "(LTornFringes$Joining;)V"⟩ prog_6_method_3_code 2 (none)) from rfl))
theorem kc37 : Cond.code (mname 37) (mcode 37) (mmaxl 37) (mret 37) ∈ lw_tbl := lwc_in (l := tables_1_3) (List.mem_of_getElem? (i := 3) rfl) (List.mem_of_getElem? (i := 48) (show tables_1_3[48]? = some (Cond.code ⟨"TornFringes$Joining", "add", "(LTornFringes$Chart;II)V"⟩ prog_6_method_4_code 4 (none)) from rfl))
theorem kc38 : Cond.code (mname 38) (mcode 38) (mmaxl 38) (mret 38) ∈ lw_tbl := lwc_in (l := tables_1_3) (List.mem_of_getElem? (i := 3) rfl) (List.mem_of_getElem? (i := 73) (show tables_1_3[73]? = some (Cond.code ⟨"TornFringes$Joining", "cutBetween", "(LTornFringes$Chart;II)V"⟩ prog_6_method_5_code 8 (none)) from rfl))
theorem kc39 : Cond.code (mname 39) (mcode 39) (mmaxl 39) (mret 39) ∈ lw_tbl := lwc_in (l := tables_1_3) (List.mem_of_getElem? (i := 3) rfl) (List.mem_of_getElem? (i := 58) (show tables_1_3[58]? = some (Cond.code ⟨"TornFringes$Joining", "cutToBorder", "(LTornFringes$Chart;I)V"⟩ prog_6_method_6_code 6 (none)) from rfl))
theorem kc40 : Cond.code (mname 40) (mcode 40) (mmaxl 40) (mret 40) ∈ lw_tbl := lwc_in (l := tables_1_3) (List.mem_of_getElem? (i := 3) rfl) (List.mem_of_getElem? (i := 69) (show tables_1_3[69]? = some (Cond.code ⟨"TornFringes$Joining", "goAlongRow", "(LTornFringes$Chart;III)V"⟩ prog_6_method_7_code 6 (none)) from rfl))
theorem kc41 : Cond.code (mname 41) (mcode 41) (mmaxl 41) (mret 41) ∈ lw_tbl := lwc_in (l := tables_1_3) (List.mem_of_getElem? (i := 3) rfl) (List.mem_of_getElem? (i := 65) (show tables_1_3[65]? = some (Cond.code ⟨"TornFringes$Joining", "goAlongColumn", "(LTornFringes$Chart;III)V"⟩ prog_6_method_8_code 6 (none)) from rfl))
theorem kc42 : Cond.code (mname 42) (mcode 42) (mmaxl 42) (mret 42) ∈ lw_tbl := lwc_in (l := tables_1_1) (List.mem_of_getElem? (i := 1) rfl) (List.mem_of_getElem? (i := 103) (show tables_1_1[103]? = some (Cond.code ⟨"TornFringes$Lay", "<init>", "()V"⟩ prog_7_method_1_code 1 (none)) from rfl))
theorem kc43 : Cond.code (mname 43) (mcode 43) (mmaxl 43) (mret 43) ∈ lw_tbl := lwc_in (l := tables_1_2) (List.mem_of_getElem? (i := 2) rfl) (List.mem_of_getElem? (i := 226) (show tables_1_2[226]? = some (Cond.code ⟨"TornFringes$Lay", "clear", "()V"⟩ prog_7_method_2_code 1 (none)) from rfl))
theorem kc44 : Cond.code (mname 44) (mcode 44) (mmaxl 44) (mret 44) ∈ lw_tbl := lwc_in (l := tables_1_2) (List.mem_of_getElem? (i := 2) rfl) (List.mem_of_getElem? (i := 142) (show tables_1_2[142]? = some (Cond.code ⟨"TornFringes$Lay", "copyFrom", "(LTornFringes$Lay;)V"⟩ prog_7_method_3_code 2 (none)) from rfl))
theorem kc45 : Cond.code (mname 45) (mcode 45) (mmaxl 45) (mret 45) ∈ lw_tbl := lwc_in (l := tables_1_3) (List.mem_of_getElem? (i := 3) rfl) (List.mem_of_getElem? (i := 95) (show tables_1_3[95]? = some (Cond.code ⟨"TornFringes$Lay", "start", "(LTornFringes$Chart;)V"⟩ prog_7_method_4_code 2 (none)) from rfl))
theorem kc46 : Cond.code (mname 46) (mcode 46) (mmaxl 46) (mret 46) ∈ lw_tbl := lwc_in (l := tables_1_3) (List.mem_of_getElem? (i := 3) rfl) (List.mem_of_getElem? (i := 154) (show tables_1_3[154]? = some (Cond.code ⟨"TornFringes$Lay", "advance", "(LTornFringes$Chart;LTornFringes$Front;)V"⟩ prog_7_method_5_code 4 (none)) from rfl))
theorem kc47 : Cond.code (mname 47) (mcode 47) (mmaxl 47) (mret 47) ∈ lw_tbl := lwc_in (l := tables_1_3) (List.mem_of_getElem? (i := 3) rfl) (List.mem_of_getElem? (i := 166) (show tables_1_3[166]? = some (Cond.code ⟨"TornFringes$Lay", "follow", "(LTornFringes$Chart;II)V"⟩ prog_7_method_6_code 4 (none)) from rfl))
theorem kc48 : Cond.code (mname 48) (mcode 48) (mmaxl 48) (mret 48) ∈ lw_tbl := lwc_in (l := tables_1_3) (List.mem_of_getElem? (i := 3) rfl) (List.mem_of_getElem? (i := 176) (show tables_1_3[176]? = some (Cond.code ⟨"TornFringes$Lay", "openIsle", "(LTornFringes$Chart;I)V"⟩ prog_7_method_7_code 3 (none)) from rfl))
theorem kc49 : Cond.code (mname 49) (mcode 49) (mmaxl 49) (mret 49) ∈ lw_tbl := lwc_in (l := tables_1_3) (List.mem_of_getElem? (i := 3) rfl) (List.mem_of_getElem? (i := 171) (show tables_1_3[171]? = some (Cond.code ⟨"TornFringes$Lay", "bestNotLaid", "(LTornFringes$Chart;)I"⟩ prog_7_method_8_code 4 (some .int)) from rfl))
theorem kc50 : Cond.code (mname 50) (mcode 50) (mmaxl 50) (mret 50) ∈ lw_tbl := lwc_in (l := tables_1_3) (List.mem_of_getElem? (i := 3) rfl) (List.mem_of_getElem? (i := 136) (show tables_1_3[136]? = some (Cond.code ⟨"TornFringes$Lay", "isLaid", "(I)Z"⟩ prog_7_method_9_code 2 (some .boolean)) from rfl))
theorem kc51 : Cond.code (mname 51) (mcode 51) (mmaxl 51) (mret 51) ∈ lw_tbl := lwc_in (l := tables_1_3) (List.mem_of_getElem? (i := 3) rfl) (List.mem_of_getElem? (i := 204) (show tables_1_3[204]? = some (Cond.code ⟨"TornFringes$Lay", "hasIsle", "(I)Z"⟩ prog_7_method_10_code 2 (some .boolean)) from rfl))
theorem kc52 : Cond.code (mname 52) (mcode 52) (mmaxl 52) (mret 52) ∈ lw_tbl := lwc_in (l := tables_1_4) (List.mem_of_getElem? (i := 4) rfl) (List.mem_of_getElem? (i := 158) (show tables_1_4[158]? = some (Cond.code ⟨"TornFringes$Lay", "pixelsOf", "(LTornFringes$Chart;I)I"⟩ prog_7_method_11_code 5 (some .int)) from rfl))
theorem kc53 : Cond.code (mname 53) (mcode 53) (mmaxl 53) (mret 53) ∈ lw_tbl := lwc_in (l := tables_1_4) (List.mem_of_getElem? (i := 4) rfl) (List.mem_of_getElem? (i := 147) (show tables_1_4[147]? = some (Cond.code ⟨"TornFringes$Lay", "depthOf", "(I)I"⟩ prog_7_method_12_code 4 (some .int)) from rfl))
theorem kc54 : Cond.code (mname 54) (mcode 54) (mmaxl 54) (mret 54) ∈ lw_tbl := lwc_in (l := tables_1_3) (List.mem_of_getElem? (i := 3) rfl) (List.mem_of_getElem? (i := 208) (show tables_1_3[208]? = some (Cond.code ⟨"TornFringes$Lay", "canLift", "(LTornFringes$Chart;II)Z"⟩ prog_7_method_13_code 7 (some .boolean)) from rfl))
theorem kc55 : Cond.code (mname 55) (mcode 55) (mmaxl 55) (mret 55) ∈ lw_tbl := lwc_in (l := tables_1_3) (List.mem_of_getElem? (i := 3) rfl) (List.mem_of_getElem? (i := 215) (show tables_1_3[215]? = some (Cond.code ⟨"TornFringes$Lay", "raise", "(LTornFringes$Chart;II)V"⟩ prog_7_method_14_code 5 (none)) from rfl))
theorem kc56 : Cond.code (mname 56) (mcode 56) (mmaxl 56) (mret 56) ∈ lw_tbl := lwc_in (l := tables_1_1) (List.mem_of_getElem? (i := 1) rfl) (List.mem_of_getElem? (i := 192) (show tables_1_1[192]? = some (Cond.code ⟨"TornFringes$Log", "<init>", "()V"⟩ prog_8_method_1_code 1 (none)) from rfl))
theorem kc57 : Cond.code (mname 57) (mcode 57) (mmaxl 57) (mret 57) ∈ lw_tbl := lwc_in (l := tables_1_3) (List.mem_of_getElem? (i := 3) rfl) (List.mem_of_getElem? (i := 79) (show tables_1_3[79]? = some (Cond.code ⟨"TornFringes$Log", "note", "(III)V"⟩ prog_8_method_3_code 5 (none)) from rfl))
theorem kc58 : Cond.code (mname 58) (mcode 58) (mmaxl 58) (mret 58) ∈ lw_tbl := lwc_in (l := tables_1_1) (List.mem_of_getElem? (i := 1) rfl) (List.mem_of_getElem? (i := 223) (show tables_1_1[223]? = some (Cond.code ⟨"TornFringes$Pairing", "<init>", "()V"⟩ prog_9_method_1_code 1 (none)) from rfl))
theorem kc59 : Cond.code (mname 59) (mcode 59) (mmaxl 59) (mret 59) ∈ lw_tbl := lwc_in (l := tables_1_2) (List.mem_of_getElem? (i := 2) rfl) (List.mem_of_getElem? (i := 150) (show tables_1_2[150]? = some (Cond.code ⟨"TornFringes$Pairing", "findTorn", "(LTornFringes$Chart;)V"⟩ prog_9_method_2_code 4 (none)) from rfl))
theorem kc60 : Cond.code (mname 60) (mcode 60) (mmaxl 60) (mret 60) ∈ lw_tbl := lwc_in (l := tables_1_2) (List.mem_of_getElem? (i := 2) rfl) (List.mem_of_getElem? (i := 205) (show tables_1_2[205]? = some (Cond.code ⟨"TornFringes$Pairing", "farToTorn", "(LTornFringes$Chart;I)I"⟩ prog_9_method_3_code 5 (some .int)) from rfl))
theorem kc61 : Cond.code (mname 61) (mcode 61) (mmaxl 61) (mret 61) ∈ lw_tbl := lwc_in (l := tables_1_2) (List.mem_of_getElem? (i := 2) rfl) (List.mem_of_getElem? (i := 234) (show tables_1_2[234]? = some (Cond.code ⟨"TornFringes$Pairing", "canPair", "(LTornFringes$Chart;I)Z"⟩ prog_9_method_4_code 3 (some .boolean)) from rfl))
theorem kc62 : Cond.code (mname 62) (mcode 62) (mmaxl 62) (mret 62) ∈ lw_tbl := lwc_in (l := tables_1_2) (List.mem_of_getElem? (i := 2) rfl) (List.mem_of_getElem? (i := 239) (show tables_1_2[239]? = some (Cond.code ⟨"TornFringes$Pairing", "pair", "(LTornFringes$Chart;I)V"⟩ prog_9_method_5_code 3 (none)) from rfl))
theorem kc63 : Cond.code (mname 63) (mcode 63) (mmaxl 63) (mret 63) ∈ lw_tbl := lwc_in (l := tables_1_3) (List.mem_of_getElem? (i := 3) rfl) (List.mem_of_getElem? (i := 39) (show tables_1_3[39]? = some (Cond.code ⟨"TornFringes$Pairing", "tell", "(LTornFringes$Chart;LTornFringes$Joining;)V"⟩ prog_9_method_6_code 4 (none)) from rfl))
theorem kc64 : Cond.code (mname 64) (mcode 64) (mmaxl 64) (mret 64) ∈ lw_tbl := lwc_in (l := tables_1_3) (List.mem_of_getElem? (i := 3) rfl) (List.mem_of_getElem? (i := 3) (show tables_1_3[3]? = some (Cond.code ⟨"TornFringes$Pairing", "pairNearest", "(LTornFringes$Chart;)V"⟩ prog_9_method_7_code 4 (none)) from rfl))
theorem kc65 : Cond.code (mname 65) (mcode 65) (mmaxl 65) (mret 65) ∈ lw_tbl := lwc_in (l := tables_1_3) (List.mem_of_getElem? (i := 3) rfl) (List.mem_of_getElem? (i := 7) (show tables_1_3[7]? = some (Cond.code ⟨"TornFringes$Pairing", "pairAtFar", "(LTornFringes$Chart;II)V"⟩ prog_9_method_8_code 5 (none)) from rfl))
theorem kc66 : Cond.code (mname 66) (mcode 66) (mmaxl 66) (mret 66) ∈ lw_tbl := lwc_in (l := tables_1_3) (List.mem_of_getElem? (i := 3) rfl) (List.mem_of_getElem? (i := 16) (show tables_1_3[16]? = some (Cond.code ⟨"TornFringes$Pairing", "pairLeast", "(LTornFringes$Chart;)V"⟩ prog_9_method_9_code 5 (none)) from rfl))
theorem kc67 : Cond.code (mname 67) (mcode 67) (mmaxl 67) (mret 67) ∈ lw_tbl := lwc_in (l := tables_1_3) (List.mem_of_getElem? (i := 3) rfl) (List.mem_of_getElem? (i := 29) (show tables_1_3[29]? = some (Cond.code ⟨"TornFringes$Pairing", "leastMate", "(LTornFringes$Chart;II)I"⟩ prog_9_method_10_code 7 (some .int)) from rfl))
theorem kc68 : Cond.code (mname 68) (mcode 68) (mmaxl 68) (mret 68) ∈ lw_tbl := lwc_in (l := tables_1_3) (List.mem_of_getElem? (i := 3) rfl) (List.mem_of_getElem? (i := 32) (show tables_1_3[32]? = some (Cond.code ⟨"TornFringes$Pairing", "leastFars", "(LTornFringes$Pairing;LTornFringes$Chart;II)I"⟩ prog_9_method_11_code 9 (some .int)) from rfl))
theorem kc69 : Cond.code (mname 69) (mcode 69) (mmaxl 69) (mret 69) ∈ lw_tbl := lwc_in (l := tables_1_3) (List.mem_of_getElem? (i := 3) rfl) (List.mem_of_getElem? (i := 25) (show tables_1_3[25]? = some (Cond.code ⟨"TornFringes$Pairing", "isIn", "(II)Z"⟩ prog_9_method_12_code 2 (some .boolean)) from rfl))
theorem kc70 : Cond.code (mname 70) (mcode 70) (mmaxl 70) (mret 70) ∈ lw_tbl := lwc_in (l := tables_1_3) (List.mem_of_getElem? (i := 3) rfl) (List.mem_of_getElem? (i := 35) (show tables_1_3[35]? = some (Cond.code ⟨"TornFringes$Pairing", "without", "(II)I"⟩ prog_9_method_13_code 2 (some .int)) from rfl))
theorem kc71 : Cond.code (mname 71) (mcode 71) (mmaxl 71) (mret 71) ∈ lw_tbl := lwc_in (l := tables_1_2) (List.mem_of_getElem? (i := 2) rfl) (List.mem_of_getElem? (i := 30) (show tables_1_2[30]? = some (Cond.code ⟨"TornFringes$Seams", "<init>", "()V"⟩ prog_10_method_1_code 1 (none)) from rfl))
theorem kc72 : Cond.code (mname 72) (mcode 72) (mmaxl 72) (mret 72) ∈ lw_tbl := lwc_in (l := tables_1_3) (List.mem_of_getElem? (i := 3) rfl) (List.mem_of_getElem? (i := 228) (show tables_1_3[228]? = some (Cond.code ⟨"TornFringes$Seams", "gather", "(LTornFringes$Chart;LTornFringes$Lay;)V"⟩ prog_10_method_2_code 4 (none)) from rfl))
theorem kc73 : Cond.code (mname 73) (mcode 73) (mmaxl 73) (mret 73) ∈ lw_tbl := lwc_in (l := tables_1_3) (List.mem_of_getElem? (i := 3) rfl) (List.mem_of_getElem? (i := 236) (show tables_1_3[236]? = some (Cond.code ⟨"TornFringes$Seams", "gatherEdge", "(LTornFringes$Chart;LTornFringes$Lay;II)V"⟩ prog_10_method_3_code 8 (none)) from rfl))
theorem kc74 : Cond.code (mname 74) (mcode 74) (mmaxl 74) (mret 74) ∈ lw_tbl := lwc_in (l := tables_1_4) (List.mem_of_getElem? (i := 4) rfl) (List.mem_of_getElem? (i := 10) (show tables_1_4[10]? = some (Cond.code ⟨"TornFringes$Seams", "insert", "(II)V"⟩ prog_10_method_4_code 4 (none)) from rfl))
theorem kc75 : Cond.code (mname 75) (mcode 75) (mmaxl 75) (mret 75) ∈ lw_tbl := lwc_in (l := tables_1_4) (List.mem_of_getElem? (i := 4) rfl) (List.mem_of_getElem? (i := 0) (show tables_1_4[0]? = some (Cond.code ⟨"TornFringes$Seams", "pairOf", "(II)I"⟩ prog_10_method_5_code 2 (some .int)) from rfl))
theorem kc76 : Cond.code (mname 76) (mcode 76) (mmaxl 76) (mret 76) ∈ lw_tbl := lwc_in (l := tables_1_4) (List.mem_of_getElem? (i := 4) rfl) (List.mem_of_getElem? (i := 3) (show tables_1_4[3]? = some (Cond.code ⟨"TornFringes$Seams", "turnsLacking", "(LTornFringes$Chart;LTornFringes$Lay;II)I"⟩ prog_10_method_6_code 6 (some .int)) from rfl))
theorem kc77 : Cond.code (mname 77) (mcode 77) (mmaxl 77) (mret 77) ∈ lw_tbl := lwc_in (l := tables_1_4) (List.mem_of_getElem? (i := 4) rfl) (List.mem_of_getElem? (i := 18) (show tables_1_4[18]? = some (Cond.code ⟨"TornFringes$Seams", "endOfPair", "(II)I"⟩ prog_10_method_8_code 4 (some .int)) from rfl))
theorem kc78 : Cond.code (mname 78) (mcode 78) (mmaxl 78) (mret 78) ∈ lw_tbl := lwc_in (l := tables_1_4) (List.mem_of_getElem? (i := 4) rfl) (List.mem_of_getElem? (i := 22) (show tables_1_4[22]? = some (Cond.code ⟨"TornFringes$Seams", "fitWithin", "(III)V"⟩ prog_10_method_9_code 7 (none)) from rfl))
theorem kc79 : Cond.code (mname 79) (mcode 79) (mmaxl 79) (mret 79) ∈ lw_tbl := lwc_in (l := tables_1_4) (List.mem_of_getElem? (i := 4) rfl) (List.mem_of_getElem? (i := 25) (show tables_1_4[25]? = some (Cond.code ⟨"TornFringes$Seams", "isNearer", "(II)Z"⟩ prog_10_method_10_code 4 (some .boolean)) from rfl))
theorem kc80 : Cond.code (mname 80) (mcode 80) (mmaxl 80) (mret 80) ∈ lw_tbl := lwc_in (l := tables_1_3) (List.mem_of_getElem? (i := 3) rfl) (List.mem_of_getElem? (i := 224) (show tables_1_3[224]? = some (Cond.code ⟨"TornFringes$Seams", "uniteAll", "(LTornFringes$Chart;LTornFringes$Lay;)I"⟩ prog_10_method_11_code 8 (some .int)) from rfl))
theorem kc81 : Cond.code (mname 81) (mcode 81) (mmaxl 81) (mret 81) ∈ lw_tbl := lwc_in (l := tables_1_4) (List.mem_of_getElem? (i := 4) rfl) (List.mem_of_getElem? (i := 14) (show tables_1_4[14]? = some (Cond.code ⟨"TornFringes$Seams", "findBest", "()I"⟩ prog_10_method_12_code 6 (some .int)) from rfl))
theorem kc82 : Cond.code (mname 82) (mcode 82) (mmaxl 82) (mret 82) ∈ lw_tbl := lwc_in (l := tables_1_4) (List.mem_of_getElem? (i := 4) rfl) (List.mem_of_getElem? (i := 30) (show tables_1_4[30]? = some (Cond.code ⟨"TornFringes$Seams", "liftGroup", "(LTornFringes$Chart;LTornFringes$Lay;I)Z"⟩ prog_10_method_13_code 5 (some .boolean)) from rfl))
theorem kc83 : Cond.code (mname 83) (mcode 83) (mmaxl 83) (mret 83) ∈ lw_tbl := lwc_in (l := tables_1_4) (List.mem_of_getElem? (i := 4) rfl) (List.mem_of_getElem? (i := 36) (show tables_1_4[36]? = some (Cond.code ⟨"TornFringes$Seams", "unite", "(LTornFringes$Lay;II)V"⟩ prog_10_method_14_code 5 (none)) from rfl))
theorem kc84 : Cond.code (mname 84) (mcode 84) (mmaxl 84) (mret 84) ∈ lw_tbl := lwc_in (l := tables_1_1) (List.mem_of_getElem? (i := 1) rfl) (List.mem_of_getElem? (i := 206) (show tables_1_1[206]? = some (Cond.code ⟨"TornFringes$Tape", "<init>", "()V"⟩ prog_11_method_1_code 1 (none)) from rfl))
theorem kc85 : Cond.code (mname 85) (mcode 85) (mmaxl 85) (mret 85) ∈ lw_tbl := lwc_in (l := tables_1_1) (List.mem_of_getElem? (i := 1) rfl) (List.mem_of_getElem? (i := 72) (show tables_1_1[72]? = some (Cond.code ⟨"TornFringes$Whole", "<init>", "(LTornFringes$Chart;)V"⟩ prog_12_method_1_code 2 (none)) from rfl))
theorem kc86 : Cond.code (mname 86) (mcode 86) (mmaxl 86) (mret 86) ∈ lw_tbl := lwc_in (l := tables_1_2) (List.mem_of_getElem? (i := 2) rfl) (List.mem_of_getElem? (i := 126) (show tables_1_2[126]? = some (Cond.code ⟨"TornFringes$Whole", "copyFrom", "(LTornFringes$Whole;)V"⟩ prog_12_method_2_code 2 (none)) from rfl))
theorem kc87 : Cond.code (mname 87) (mcode 87) (mmaxl 87) (mret 87) ∈ lw_tbl := lwc_in (l := tables_1_4) (List.mem_of_getElem? (i := 4) rfl) (List.mem_of_getElem? (i := 106) (show tables_1_4[106]? = some (Cond.code ⟨"TornFringes$Whole", "tellMap", "(II)V"⟩ prog_12_method_3_code 3 (none)) from rfl))
theorem kc88 : Cond.code (mname 88) (mcode 88) (mmaxl 88) (mret 88) ∈ lw_tbl := lwc_in (l := tables_1_3) (List.mem_of_getElem? (i := 3) rfl) (List.mem_of_getElem? (i := 127) (show tables_1_3[127]? = some (Cond.code ⟨"TornFringes$Whole", "isCut", "(I)Z"⟩ prog_12_method_4_code 2 (some .boolean)) from rfl))
theorem kc89 : Cond.code (mname 89) (mcode 89) (mmaxl 89) (mret 89) ∈ lw_tbl := lwc_in (l := tables_1_4) (List.mem_of_getElem? (i := 4) rfl) (List.mem_of_getElem? (i := 79) (show tables_1_4[79]? = some (Cond.code ⟨"TornFringes$Whole", "countCut", "()I"⟩ prog_12_method_5_code 3 (some .int)) from rfl))
theorem kc90 : Cond.code (mname 90) (mcode 90) (mmaxl 90) (mret 90) ∈ lw_tbl := lwc_in (l := tables_1_3) (List.mem_of_getElem? (i := 3) rfl) (List.mem_of_getElem? (i := 187) (show tables_1_3[187]? = some (Cond.code ⟨"TornFringes$Whole", "isJump", "(I)Z"⟩ prog_12_method_6_code 2 (some .boolean)) from rfl))
theorem kc91 : Cond.code (mname 91) (mcode 91) (mmaxl 91) (mret 91) ∈ lw_tbl := lwc_in (l := tables_1_4) (List.mem_of_getElem? (i := 4) rfl) (List.mem_of_getElem? (i := 57) (show tables_1_4[57]? = some (Cond.code ⟨"TornFringes$Whole", "isTear", "(I)Z"⟩ prog_12_method_7_code 2 (some .boolean)) from rfl))
theorem kc92 : Cond.code (mname 92) (mcode 92) (mmaxl 92) (mret 92) ∈ lw_tbl := lwc_in (l := tables_1_3) (List.mem_of_getElem? (i := 3) rfl) (List.mem_of_getElem? (i := 192) (show tables_1_3[192]? = some (Cond.code ⟨"TornFringes$Whole", "differs", "(I)Z"⟩ prog_12_method_8_code 4 (some .boolean)) from rfl))
theorem kc93 : Cond.code (mname 93) (mcode 93) (mmaxl 93) (mret 93) ∈ lw_tbl := lwc_in (l := tables_1_3) (List.mem_of_getElem? (i := 3) rfl) (List.mem_of_getElem? (i := 181) (show tables_1_3[181]? = some (Cond.code ⟨"TornFringes$Whole", "countJumps", "()I"⟩ prog_12_method_9_code 3 (some .int)) from rfl))
theorem kc94 : Cond.code (mname 94) (mcode 94) (mmaxl 94) (mret 94) ∈ lw_tbl := lwc_in (l := tables_1_4) (List.mem_of_getElem? (i := 4) rfl) (List.mem_of_getElem? (i := 83) (show tables_1_4[83]? = some (Cond.code ⟨"TornFringes$Whole", "countTears", "()I"⟩ prog_12_method_10_code 3 (some .int)) from rfl))
theorem kc95 : Cond.code (mname 95) (mcode 95) (mmaxl 95) (mret 95) ∈ lw_tbl := lwc_in (l := tables_1_4) (List.mem_of_getElem? (i := 4) rfl) (List.mem_of_getElem? (i := 162) (show tables_1_4[162]? = some (Cond.code ⟨"TornFringes$Whole", "edgesOutOf", "(I)I"⟩ prog_12_method_11_code 6 (some .int)) from rfl))
theorem kc96 : Cond.code (mname 96) (mcode 96) (mmaxl 96) (mret 96) ∈ lw_tbl := lwc_in (l := tables_1_1) (List.mem_of_getElem? (i := 1) rfl) (List.mem_of_getElem? (i := 20) (show tables_1_1[20]? = some (Cond.code ⟨"TornFringes", "<init>", "()V"⟩ prog_1_method_1_code 1 (none)) from rfl))
theorem kc97 : Cond.code (mname 97) (mcode 97) (mmaxl 97) (mret 97) ∈ lw_tbl := lwc_in (l := tables_1_4) (List.mem_of_getElem? (i := 4) rfl) (List.mem_of_getElem? (i := 99) (show tables_1_4[99]? = some (Cond.code ⟨"TornFringes", "size", "(II)Z"⟩ prog_1_method_2_code 3 (some .boolean)) from rfl))
theorem kc98 : Cond.code (mname 98) (mcode 98) (mmaxl 98) (mret 98) ∈ lw_tbl := lwc_in (l := tables_1_4) (List.mem_of_getElem? (i := 4) rfl) (List.mem_of_getElem? (i := 123) (show tables_1_4[123]? = some (Cond.code ⟨"TornFringes", "phase", "(II)I"⟩ prog_1_method_3_code 3 (some .int)) from rfl))
theorem kc99 : Cond.code (mname 99) (mcode 99) (mmaxl 99) (mret 99) ∈ lw_tbl := lwc_in (l := tables_1_4) (List.mem_of_getElem? (i := 4) rfl) (List.mem_of_getElem? (i := 127) (show tables_1_4[127]? = some (Cond.code ⟨"TornFringes", "grade", "(II)Z"⟩ prog_1_method_5_code 3 (some .boolean)) from rfl))
theorem kc100 : Cond.code (mname 100) (mcode 100) (mmaxl 100) (mret 100) ∈ lw_tbl := lwc_in (l := tables_1_2) (List.mem_of_getElem? (i := 2) rfl) (List.mem_of_getElem? (i := 115) (show tables_1_2[115]? = some (Cond.code ⟨"TornFringes", "grades", "(I)I"⟩ prog_1_method_6_code 4 (some .int)) from rfl))
theorem kc101 : Cond.code (mname 101) (mcode 101) (mmaxl 101) (mret 101) ∈ lw_tbl := lwc_in (l := tables_1_4) (List.mem_of_getElem? (i := 4) rfl) (List.mem_of_getElem? (i := 117) (show tables_1_4[117]? = some (Cond.code ⟨"TornFringes", "ramp", "(II)Z"⟩ prog_1_method_7_code 5 (some .boolean)) from rfl))
theorem kc102 : Cond.code (mname 102) (mcode 102) (mmaxl 102) (mret 102) ∈ lw_tbl := lwc_in (l := tables_1_2) (List.mem_of_getElem? (i := 2) rfl) (List.mem_of_getElem? (i := 215) (show tables_1_2[215]? = some (Cond.code ⟨"TornFringes", "noise", "(I)Z"⟩ prog_1_method_8_code 5 (some .boolean)) from rfl))
theorem kc103 : Cond.code (mname 103) (mcode 103) (mmaxl 103) (mret 103) ∈ lw_tbl := lwc_in (l := tables_1_4) (List.mem_of_getElem? (i := 4) rfl) (List.mem_of_getElem? (i := 113) (show tables_1_4[113]? = some (Cond.code ⟨"TornFringes", "state", "(I)I"⟩ prog_1_method_9_code 3 (some .int)) from rfl))
theorem kc104 : Cond.code (mname 104) (mcode 104) (mmaxl 104) (mret 104) ∈ lw_tbl := lwc_in (l := tables_1_2) (List.mem_of_getElem? (i := 2) rfl) (List.mem_of_getElem? (i := 230) (show tables_1_2[230]? = some (Cond.code ⟨"TornFringes", "join", "(I)I"⟩ prog_1_method_10_code 2 (some .int)) from rfl))
theorem kc105 : Cond.code (mname 105) (mcode 105) (mmaxl 105) (mret 105) ∈ lw_tbl := lwc_in (l := tables_1_3) (List.mem_of_getElem? (i := 3) rfl) (List.mem_of_getElem? (i := 83) (show tables_1_3[83]? = some (Cond.code ⟨"TornFringes", "cut", "(IZ)Z"⟩ prog_1_method_11_code 3 (some .boolean)) from rfl))
theorem kc106 : Cond.code (mname 106) (mcode 106) (mmaxl 106) (mret 106) ∈ lw_tbl := lwc_in (l := tables_1_3) (List.mem_of_getElem? (i := 3) rfl) (List.mem_of_getElem? (i := 91) (show tables_1_3[91]? = some (Cond.code ⟨"TornFringes", "begin", "()I"⟩ prog_1_method_12_code 1 (some .int)) from rfl))
theorem kc107 : Cond.code (mname 107) (mcode 107) (mmaxl 107) (mret 107) ∈ lw_tbl := lwc_in (l := tables_1_3) (List.mem_of_getElem? (i := 3) rfl) (List.mem_of_getElem? (i := 105) (show tables_1_3[105]? = some (Cond.code ⟨"TornFringes", "step", "(I)I"⟩ prog_1_method_13_code 4 (some .int)) from rfl))
theorem kc108 : Cond.code (mname 108) (mcode 108) (mmaxl 108) (mret 108) ∈ lw_tbl := lwc_in (l := tables_1_3) (List.mem_of_getElem? (i := 3) rfl) (List.mem_of_getElem? (i := 200) (show tables_1_3[200]? = some (Cond.code ⟨"TornFringes", "lift", "(II)Z"⟩ prog_1_method_14_code 3 (some .boolean)) from rfl))
theorem kc109 : Cond.code (mname 109) (mcode 109) (mmaxl 109) (mret 109) ∈ lw_tbl := lwc_in (l := tables_1_3) (List.mem_of_getElem? (i := 3) rfl) (List.mem_of_getElem? (i := 219) (show tables_1_3[219]? = some (Cond.code ⟨"TornFringes", "settle", "()I"⟩ prog_1_method_15_code 2 (some .int)) from rfl))
theorem kc110 : Cond.code (mname 110) (mcode 110) (mmaxl 110) (mret 110) ∈ lw_tbl := lwc_in (l := tables_1_4) (List.mem_of_getElem? (i := 4) rfl) (List.mem_of_getElem? (i := 143) (show tables_1_4[143]? = some (Cond.code ⟨"TornFringes", "pixel", "(II)I"⟩ prog_1_method_20_code 4 (some .int)) from rfl))
theorem kc111 : Cond.code (mname 111) (mcode 111) (mmaxl 111) (mret 111) ∈ lw_tbl := lwc_in (l := tables_1_4) (List.mem_of_getElem? (i := 4) rfl) (List.mem_of_getElem? (i := 40) (show tables_1_4[40]? = some (Cond.code ⟨"TornFringes", "height", "(I)I"⟩ prog_1_method_21_code 2 (some .int)) from rfl))
theorem kc112 : Cond.code (mname 112) (mcode 112) (mmaxl 112) (mret 112) ∈ lw_tbl := lwc_in (l := tables_1_4) (List.mem_of_getElem? (i := 4) rfl) (List.mem_of_getElem? (i := 47) (show tables_1_4[47]? = some (Cond.code ⟨"TornFringes", "edge", "(II)I"⟩ prog_1_method_22_code 4 (some .int)) from rfl))
theorem kc113 : Cond.code (mname 113) (mcode 113) (mmaxl 113) (mret 113) ∈ lw_tbl := lwc_in (l := tables_1_4) (List.mem_of_getElem? (i := 4) rfl) (List.mem_of_getElem? (i := 63) (show tables_1_4[63]? = some (Cond.code ⟨"TornFringes", "torn", "(I)I"⟩ prog_1_method_24_code 2 (some .int)) from rfl))
theorem kc114 : Cond.code (mname 114) (mcode 114) (mmaxl 114) (mret 114) ∈ lw_tbl := lwc_in (l := tables_1_4) (List.mem_of_getElem? (i := 4) rfl) (List.mem_of_getElem? (i := 154) (show tables_1_4[154]? = some (Cond.code ⟨"TornFringes", "island", "(II)I"⟩ prog_1_method_28_code 3 (some .int)) from rfl))
theorem kc115 : Cond.code (mname 115) (mcode 115) (mmaxl 115) (mret 115) ∈ lw_tbl := lwc_in (l := tables_1_4) (List.mem_of_getElem? (i := 4) rfl) (List.mem_of_getElem? (i := 166) (show tables_1_4[166]? = some (Cond.code ⟨"TornFringes", "way", "(II)I"⟩ prog_1_method_36_code 5 (some .int)) from rfl))
theorem kc116 : Cond.code (mname 116) (mcode 116) (mmaxl 116) (mret 116) ∈ lw_tbl := lwc_in (l := tables_1_4) (List.mem_of_getElem? (i := 4) rfl) (List.mem_of_getElem? (i := 67) (show tables_1_4[67]? = some (Cond.code ⟨"TornFringes", "look", "(I)I"⟩ prog_1_method_42_code 2 (some .int)) from rfl))
theorem kc117 : Cond.code (mname 117) (mcode 117) (mmaxl 117) (mret 117) ∈ lw_tbl := lwc_in (l := tables_1_4) (List.mem_of_getElem? (i := 4) rfl) (List.mem_of_getElem? (i := 102) (show tables_1_4[102]? = some (Cond.code ⟨"TornFringes", "isSide", "(I)Z"⟩ prog_1_method_43_code 1 (some .boolean)) from rfl))
theorem kc118 : Cond.code (mname 118) (mcode 118) (mmaxl 118) (mret 118) ∈ lw_tbl := lwc_in (l := tables_1_2) (List.mem_of_getElem? (i := 2) rfl) (List.mem_of_getElem? (i := 219) (show tables_1_2[219]? = some (Cond.code ⟨"TornFringes", "draw", "(I)I"⟩ prog_1_method_44_code 2 (some .int)) from rfl))
theorem kc119 : Cond.code (mname 119) (mcode 119) (mmaxl 119) (mret 119) ∈ lw_tbl := lwc_in (l := tables_1_2) (List.mem_of_getElem? (i := 2) rfl) (List.mem_of_getElem? (i := 187) (show tables_1_2[187]? = some (Cond.code ⟨"TornFringes", "gradeBy", "(II)I"⟩ prog_1_method_45_code 3 (some .int)) from rfl))
theorem kc120 : Cond.code (mname 120) (mcode 120) (mmaxl 120) (mret 120) ∈ lw_tbl := lwc_in (l := tables_1_3) (List.mem_of_getElem? (i := 3) rfl) (List.mem_of_getElem? (i := 22) (show tables_1_3[22]? = some (Cond.code ⟨"java/util/Arrays", "rangeCheck", "(III)V"⟩ prog_17_method_30_code 3 (none)) from rfl))
theorem kc121 : Cond.code (mname 121) (mcode 121) (mmaxl 121) (mret 121) ∈ lw_tbl := lwc_in (l := tables_1_1) (List.mem_of_getElem? (i := 1) rfl) (List.mem_of_getElem? (i := 107) (show tables_1_1[107]? = some (Cond.code ⟨"java/util/Arrays", "fill", "([II)V"⟩ prog_17_method_103_code 4 (none)) from rfl))
theorem kc122 : Cond.code (mname 122) (mcode 122) (mmaxl 122) (mret 122) ∈ lw_tbl := lwc_in (l := tables_1_3) (List.mem_of_getElem? (i := 3) rfl) (List.mem_of_getElem? (i := 19) (show tables_1_3[19]? = some (Cond.code ⟨"java/util/Arrays", "fill", "([IIII)V"⟩ prog_17_method_104_code 5 (none)) from rfl))
theorem kc123 : Cond.code (mname 123) (mcode 123) (mmaxl 123) (mret 123) ∈ lw_tbl := lwc_in (l := tables_1_4) (List.mem_of_getElem? (i := 4) rfl) (List.mem_of_getElem? (i := 87) (show tables_1_4[87]? = some (Cond.code ⟨"TornFringesLaw", "cell", "([II)I"⟩ method_2_code 2 (some .int)) from rfl))
theorem kc124 : Cond.code (mname 124) (mcode 124) (mmaxl 124) (mret 124) ∈ lw_tbl := lwc_in (l := tables_1_4) (List.mem_of_getElem? (i := 4) rfl) (List.mem_of_getElem? (i := 91) (show tables_1_4[91]? = some (Cond.code ⟨"TornFringesLaw", "between", "(III)I"⟩ method_3_code 3 (some .int)) from rfl))
theorem kc125 : Cond.code (mname 125) (mcode 125) (mmaxl 125) (mret 125) ∈ lw_tbl := lwc_in (l := tables_1_4) (List.mem_of_getElem? (i := 4) rfl) (List.mem_of_getElem? (i := 95) (show tables_1_4[95]? = some (Cond.code ⟨"TornFringesLaw", "map", "(LTornFringes;[I)I"⟩ method_4_code 7 (some .int)) from rfl))
theorem kc126 : Cond.code (mname 126) (mcode 126) (mmaxl 126) (mret 126) ∈ lw_tbl := lwc_in (l := tables_1_4) (List.mem_of_getElem? (i := 4) rfl) (List.mem_of_getElem? (i := 130) (show tables_1_4[130]? = some (Cond.code ⟨"TornFringesLaw", "isEdge", "(LTornFringes;I)Z"⟩ method_5_code 2 (some .boolean)) from rfl))
theorem kc127 : Cond.code (mname 127) (mcode 127) (mmaxl 127) (mret 127) ∈ lw_tbl := lwc_in (l := tables_1_4) (List.mem_of_getElem? (i := 4) rfl) (List.mem_of_getElem? (i := 133) (show tables_1_4[133]? = some (Cond.code ⟨"TornFringesLaw", "greater", "(LTornFringes;I)I"⟩ method_6_code 2 (some .int)) from rfl))
theorem kc128 : Cond.code (mname 128) (mcode 128) (mmaxl 128) (mret 128) ∈ lw_tbl := lwc_in (l := tables_1_4) (List.mem_of_getElem? (i := 4) rfl) (List.mem_of_getElem? (i := 150) (show tables_1_4[150]? = some (Cond.code ⟨"TornFringesLaw", "wrapped", "(I)I"⟩ method_7_code 2 (some .int)) from rfl))
theorem kc129 : Cond.code (mname 129) (mcode 129) (mmaxl 129) (mret 129) ∈ lw_tbl := lwc_in (l := tables_1_4) (List.mem_of_getElem? (i := 4) rfl) (List.mem_of_getElem? (i := 136) (show tables_1_4[136]? = some (Cond.code ⟨"TornFringesLaw", "isCut", "(LTornFringes;I)Z"⟩ method_8_code 2 (some .boolean)) from rfl))
theorem kc130 : Cond.code (mname 130) (mcode 130) (mmaxl 130) (mret 130) ∈ lw_tbl := lwc_in (l := tables_1_4) (List.mem_of_getElem? (i := 4) rfl) (List.mem_of_getElem? (i := 139) (show tables_1_4[139]? = some (Cond.code ⟨"TornFringesLaw", "isLaid", "(LTornFringes;I)Z"⟩ method_10_code 5 (some .boolean)) from rfl))
def nMet : Nat := 131
theorem kq0 : (mtab0.take 50).all chkM = true := by decide +kernel
theorem kq1 : (mtab1.take 50).all chkM = true := by decide +kernel
theorem kq2 : (mtab2.take 31).all chkM = true := by decide +kernel
theorem chkM_at : ∀ c j : Nat, 50 * c + j < nMet → j < 50 → chkM ((mtabs.getD c []).getD j mrow0) = true := by
  intro c j h hj
  have hc : c < 3 := by unfold nMet at h; omega
  have key : ∀ (l : List mrow) (n : Nat), (l.take n).all chkM = true → n ≤ l.length → j < n → chkM (l.getD j mrow0) = true := by
    intro l n h1 h2 h3
    have h4 : j < (l.take n).length := by rw [List.length_take]; omega
    have h5 := List.all_eq_true.mp h1 _ (List.getElem_mem h4)
    rw [List.getElem_take] at h5
    rw [List.getD_eq_getElem?_getD, List.getElem?_eq_getElem (by omega)]
    exact h5
  unfold nMet at h
  rcases (show c = 0 ∨ c = 1 ∨ c = 2 by omega) with rfl | rfl | rfl
  · exact key mtab0 50 kq0 (Nat.le_of_ble_eq_true rfl) (by omega)
  · exact key mtab1 50 kq1 (Nat.le_of_ble_eq_true rfl) (by omega)
  · exact key mtab2 31 kq2 (Nat.le_of_ble_eq_true rfl) (by omega)
theorem chkM_k {k : Nat} (h : k < nMet) : chkM (mro k) = true := chkM_at (k / 50) (k % 50) (by rw [Nat.div_add_mod]; exact h) (Nat.mod_lt _ (by decide))
set_option maxRecDepth 100000 in
theorem kd0 : ∀ q ∈ mtab0.take 50, Cond.code q.1 q.2.1 q.2.2.1 q.2.2.2.1 ∈ lw_tbl := List.forall_mem_cons.mpr ⟨kc0, List.forall_mem_cons.mpr ⟨kc1, List.forall_mem_cons.mpr ⟨kc2, List.forall_mem_cons.mpr ⟨kc3, List.forall_mem_cons.mpr ⟨kc4, List.forall_mem_cons.mpr ⟨kc5, List.forall_mem_cons.mpr ⟨kc6, List.forall_mem_cons.mpr ⟨kc7, List.forall_mem_cons.mpr ⟨kc8, List.forall_mem_cons.mpr ⟨kc9, List.forall_mem_cons.mpr ⟨kc10, List.forall_mem_cons.mpr ⟨kc11, List.forall_mem_cons.mpr ⟨kc12, List.forall_mem_cons.mpr ⟨kc13, List.forall_mem_cons.mpr ⟨kc14, List.forall_mem_cons.mpr ⟨kc15, List.forall_mem_cons.mpr ⟨kc16, List.forall_mem_cons.mpr ⟨kc17, List.forall_mem_cons.mpr ⟨kc18, List.forall_mem_cons.mpr ⟨kc19, List.forall_mem_cons.mpr ⟨kc20, List.forall_mem_cons.mpr ⟨kc21, List.forall_mem_cons.mpr ⟨kc22, List.forall_mem_cons.mpr ⟨kc23, List.forall_mem_cons.mpr ⟨kc24, List.forall_mem_cons.mpr ⟨kc25, List.forall_mem_cons.mpr ⟨kc26, List.forall_mem_cons.mpr ⟨kc27, List.forall_mem_cons.mpr ⟨kc28, List.forall_mem_cons.mpr ⟨kc29, List.forall_mem_cons.mpr ⟨kc30, List.forall_mem_cons.mpr ⟨kc31, List.forall_mem_cons.mpr ⟨kc32, List.forall_mem_cons.mpr ⟨kc33, List.forall_mem_cons.mpr ⟨kc34, List.forall_mem_cons.mpr ⟨kc35, List.forall_mem_cons.mpr ⟨kc36, List.forall_mem_cons.mpr ⟨kc37, List.forall_mem_cons.mpr ⟨kc38, List.forall_mem_cons.mpr ⟨kc39, List.forall_mem_cons.mpr ⟨kc40, List.forall_mem_cons.mpr ⟨kc41, List.forall_mem_cons.mpr ⟨kc42, List.forall_mem_cons.mpr ⟨kc43, List.forall_mem_cons.mpr ⟨kc44, List.forall_mem_cons.mpr ⟨kc45, List.forall_mem_cons.mpr ⟨kc46, List.forall_mem_cons.mpr ⟨kc47, List.forall_mem_cons.mpr ⟨kc48, List.forall_mem_cons.mpr ⟨kc49, (fun q h => absurd h List.not_mem_nil)⟩⟩⟩⟩⟩⟩⟩⟩⟩⟩⟩⟩⟩⟩⟩⟩⟩⟩⟩⟩⟩⟩⟩⟩⟩⟩⟩⟩⟩⟩⟩⟩⟩⟩⟩⟩⟩⟩⟩⟩⟩⟩⟩⟩⟩⟩⟩⟩⟩⟩
set_option maxRecDepth 100000 in
theorem kd1 : ∀ q ∈ mtab1.take 50, Cond.code q.1 q.2.1 q.2.2.1 q.2.2.2.1 ∈ lw_tbl := List.forall_mem_cons.mpr ⟨kc50, List.forall_mem_cons.mpr ⟨kc51, List.forall_mem_cons.mpr ⟨kc52, List.forall_mem_cons.mpr ⟨kc53, List.forall_mem_cons.mpr ⟨kc54, List.forall_mem_cons.mpr ⟨kc55, List.forall_mem_cons.mpr ⟨kc56, List.forall_mem_cons.mpr ⟨kc57, List.forall_mem_cons.mpr ⟨kc58, List.forall_mem_cons.mpr ⟨kc59, List.forall_mem_cons.mpr ⟨kc60, List.forall_mem_cons.mpr ⟨kc61, List.forall_mem_cons.mpr ⟨kc62, List.forall_mem_cons.mpr ⟨kc63, List.forall_mem_cons.mpr ⟨kc64, List.forall_mem_cons.mpr ⟨kc65, List.forall_mem_cons.mpr ⟨kc66, List.forall_mem_cons.mpr ⟨kc67, List.forall_mem_cons.mpr ⟨kc68, List.forall_mem_cons.mpr ⟨kc69, List.forall_mem_cons.mpr ⟨kc70, List.forall_mem_cons.mpr ⟨kc71, List.forall_mem_cons.mpr ⟨kc72, List.forall_mem_cons.mpr ⟨kc73, List.forall_mem_cons.mpr ⟨kc74, List.forall_mem_cons.mpr ⟨kc75, List.forall_mem_cons.mpr ⟨kc76, List.forall_mem_cons.mpr ⟨kc77, List.forall_mem_cons.mpr ⟨kc78, List.forall_mem_cons.mpr ⟨kc79, List.forall_mem_cons.mpr ⟨kc80, List.forall_mem_cons.mpr ⟨kc81, List.forall_mem_cons.mpr ⟨kc82, List.forall_mem_cons.mpr ⟨kc83, List.forall_mem_cons.mpr ⟨kc84, List.forall_mem_cons.mpr ⟨kc85, List.forall_mem_cons.mpr ⟨kc86, List.forall_mem_cons.mpr ⟨kc87, List.forall_mem_cons.mpr ⟨kc88, List.forall_mem_cons.mpr ⟨kc89, List.forall_mem_cons.mpr ⟨kc90, List.forall_mem_cons.mpr ⟨kc91, List.forall_mem_cons.mpr ⟨kc92, List.forall_mem_cons.mpr ⟨kc93, List.forall_mem_cons.mpr ⟨kc94, List.forall_mem_cons.mpr ⟨kc95, List.forall_mem_cons.mpr ⟨kc96, List.forall_mem_cons.mpr ⟨kc97, List.forall_mem_cons.mpr ⟨kc98, List.forall_mem_cons.mpr ⟨kc99, (fun q h => absurd h List.not_mem_nil)⟩⟩⟩⟩⟩⟩⟩⟩⟩⟩⟩⟩⟩⟩⟩⟩⟩⟩⟩⟩⟩⟩⟩⟩⟩⟩⟩⟩⟩⟩⟩⟩⟩⟩⟩⟩⟩⟩⟩⟩⟩⟩⟩⟩⟩⟩⟩⟩⟩⟩
set_option maxRecDepth 100000 in
theorem kd2 : ∀ q ∈ mtab2.take 31, Cond.code q.1 q.2.1 q.2.2.1 q.2.2.2.1 ∈ lw_tbl := List.forall_mem_cons.mpr ⟨kc100, List.forall_mem_cons.mpr ⟨kc101, List.forall_mem_cons.mpr ⟨kc102, List.forall_mem_cons.mpr ⟨kc103, List.forall_mem_cons.mpr ⟨kc104, List.forall_mem_cons.mpr ⟨kc105, List.forall_mem_cons.mpr ⟨kc106, List.forall_mem_cons.mpr ⟨kc107, List.forall_mem_cons.mpr ⟨kc108, List.forall_mem_cons.mpr ⟨kc109, List.forall_mem_cons.mpr ⟨kc110, List.forall_mem_cons.mpr ⟨kc111, List.forall_mem_cons.mpr ⟨kc112, List.forall_mem_cons.mpr ⟨kc113, List.forall_mem_cons.mpr ⟨kc114, List.forall_mem_cons.mpr ⟨kc115, List.forall_mem_cons.mpr ⟨kc116, List.forall_mem_cons.mpr ⟨kc117, List.forall_mem_cons.mpr ⟨kc118, List.forall_mem_cons.mpr ⟨kc119, List.forall_mem_cons.mpr ⟨kc120, List.forall_mem_cons.mpr ⟨kc121, List.forall_mem_cons.mpr ⟨kc122, List.forall_mem_cons.mpr ⟨kc123, List.forall_mem_cons.mpr ⟨kc124, List.forall_mem_cons.mpr ⟨kc125, List.forall_mem_cons.mpr ⟨kc126, List.forall_mem_cons.mpr ⟨kc127, List.forall_mem_cons.mpr ⟨kc128, List.forall_mem_cons.mpr ⟨kc129, List.forall_mem_cons.mpr ⟨kc130, (fun q h => absurd h List.not_mem_nil)⟩⟩⟩⟩⟩⟩⟩⟩⟩⟩⟩⟩⟩⟩⟩⟩⟩⟩⟩⟩⟩⟩⟩⟩⟩⟩⟩⟩⟩⟩⟩
theorem code_at : ∀ c j : Nat, 50 * c + j < nMet → j < 50 → (fun q : mrow => Cond.code q.1 q.2.1 q.2.2.1 q.2.2.2.1 ∈ lw_tbl) ((mtabs.getD c []).getD j mrow0) := by
  intro c j h hj
  have hc : c < 3 := by unfold nMet at h; omega
  have key : ∀ (l : List mrow) (n : Nat), (∀ q ∈ l.take n, Cond.code q.1 q.2.1 q.2.2.1 q.2.2.2.1 ∈ lw_tbl) → n ≤ l.length → j < n → (fun q : mrow => Cond.code q.1 q.2.1 q.2.2.1 q.2.2.2.1 ∈ lw_tbl) (l.getD j mrow0) := by
    intro l n h1 h2 h3
    have h4 : j < (l.take n).length := by rw [List.length_take]; omega
    have h5 := h1 _ (List.getElem_mem h4)
    rw [List.getElem_take] at h5
    rw [List.getD_eq_getElem?_getD, List.getElem?_eq_getElem (by omega)]
    exact h5
  unfold nMet at h
  rcases (show c = 0 ∨ c = 1 ∨ c = 2 by omega) with rfl | rfl | rfl
  · exact key mtab0 50 kd0 (Nat.le_of_ble_eq_true rfl) (by omega)
  · exact key mtab1 50 kd1 (Nat.le_of_ble_eq_true rfl) (by omega)
  · exact key mtab2 31 kd2 (Nat.le_of_ble_eq_true rfl) (by omega)
theorem code_k {k : Nat} (h : k < nMet) : Cond.code (mname k) (mcode k) (mmaxl k) (mret k) ∈ lw_tbl := code_at (k / 50) (k % 50) (by rw [Nat.div_add_mod]; exact h) (Nat.mod_lt _ (by decide))
def chkF (c0 : Nat) (idx c j pos g : Nat) : Bool := match cks[c]? with
  | some q => decide (j < q.2.2) && tb_at pos (Cond.fieldLink (cn c0) idx (q.2.1 j).1 (q.2.1 j).2.1 (q.2.1 j).2.2.1) && decide ((q.2.1 j).1 = q.1) && decide (q.1 = cn c) && decide (ft c j = g) && decide ((q.2.1 j).2.2.2 = fn c j) &&
    (match g with
    | 1 => decide ((q.2.1 j).2.2.1 = "I")
    | 2 => decide ((q.2.1 j).2.2.1 = "Z")
    | _ => match parseFieldDescriptor (q.2.1 j).2.2.1 with
      | some (.object _) => true
      | some (.array _) => true
      | _ => false)
  | none => false
def chkP (c0 : Nat) (r : prow) : Bool := match r.2.1 with
  | (1, c, j) => chkF c0 r.1 c j r.2.2 1
  | (2, c, j) => chkF c0 r.1 c j r.2.2 2
  | (3, c, j) => chkF c0 r.1 c j r.2.2 3
  | (4, y, n) => decide (y < nMet) && tb_at r.2.2 (Cond.methodLink (cn c0) r.1 (mname y)) && decide (nPar (mname y).desc = some n)
  | (5, c, n) => match cks[c]? with
    | some q => decide (n = q.2.2) && decide (q.1 = cn c) && tb_at r.2.2 (Cond.classLink (cn c0) r.1 q.1)
    | none => false
  | (6, _, _) => tb_at r.2.2 (Cond.methodLink (cn c0) r.1 arraycopyName)
  | (7, _, _) => tb_at r.2.2 (Cond.methodLink (cn c0) r.1 objectInit)
  | (8, _, _) => tb_at r.2.2 (Cond.methodLink (cn c0) r.1 Lib.Math.max.name)
  | (9, _, _) => tb_at r.2.2 (Cond.methodLink (cn c0) r.1 Lib.Math.min.name)
  | (10, _, _) => tb_at r.2.2 (Cond.methodLink (cn c0) r.1 Lib.Math.abs.name)
  | (11, _, _) => false
  | _ => false
theorem kp0 : ptab0.all (chkP 0) = true := by decide +kernel
theorem kp1 : ptab1.all (chkP 1) = true := by decide +kernel
theorem kp2 : ptab2.all (chkP 2) = true := by decide +kernel
theorem kp3 : ptab3.all (chkP 3) = true := by decide +kernel
theorem kp4 : ptab4.all (chkP 4) = true := by decide +kernel
theorem kp5 : ptab5.all (chkP 5) = true := by decide +kernel
theorem kp6 : ptab6.all (chkP 6) = true := by decide +kernel
theorem kp7 : ptab7.all (chkP 7) = true := by decide +kernel
theorem kp8 : ptab8.all (chkP 8) = true := by decide +kernel
theorem kp9 : ptab9.all (chkP 9) = true := by decide +kernel
theorem kp10 : ptab10.all (chkP 10) = true := by decide +kernel
theorem kp11 : ptab11.all (chkP 11) = true := by decide +kernel
theorem kp12 : ptab12.all (chkP 12) = true := by decide +kernel
theorem kp13 : ptab13.all (chkP 13) = true := by decide +kernel
theorem kp14 : ptab14.all (chkP 14) = true := by decide +kernel
theorem chkP_c {c : Nat} {r : prow} (h : r ∈ ptabs.getD c []) : chkP c r = true := by
  have hc : c < 15 := by
    rcases Nat.lt_or_ge c 15 with q | q
    · exact q
    · rw [List.getD_eq_getElem?_getD, List.getElem?_eq_none (show ptabs.length ≤ c from q)] at h; cases h
  rcases (show c = 0 ∨ c = 1 ∨ c = 2 ∨ c = 3 ∨ c = 4 ∨ c = 5 ∨ c = 6 ∨ c = 7 ∨ c = 8 ∨ c = 9 ∨ c = 10 ∨ c = 11 ∨ c = 12 ∨ c = 13 ∨ c = 14 by omega) with rfl | rfl | rfl | rfl | rfl | rfl | rfl | rfl | rfl | rfl | rfl | rfl | rfl | rfl | rfl
  · exact List.all_eq_true.mp kp0 r h
  · exact List.all_eq_true.mp kp1 r h
  · exact List.all_eq_true.mp kp2 r h
  · exact List.all_eq_true.mp kp3 r h
  · exact List.all_eq_true.mp kp4 r h
  · exact List.all_eq_true.mp kp5 r h
  · exact List.all_eq_true.mp kp6 r h
  · exact List.all_eq_true.mp kp7 r h
  · exact List.all_eq_true.mp kp8 r h
  · exact List.all_eq_true.mp kp9 r h
  · exact List.all_eq_true.mp kp10 r h
  · exact List.all_eq_true.mp kp11 r h
  · exact List.all_eq_true.mp kp12 r h
  · exact List.all_eq_true.mp kp13 r h
  · exact List.all_eq_true.mp kp14 r h
theorem chkC_all : (List.range ctabs.length).all (fun c0 => (ctabs.getD c0 []).all (fun r => tb_at r.2.2 (Cond.constant (cn c0) r.1 (Int32.ofInt r.2.1)))) = true := by decide +kernel
theorem chkL_all : (List.range ltabs.length).all (fun c0 => (ltabs.getD c0 []).all (fun r => tb_at r.2.2 (Cond.constantLong (cn c0) r.1 (Int64.ofInt r.2.1)))) = true := by decide +kernel
/-- a class: its fields lie as the tables say, are apart by name, and have types -/
def chkK (c : Nat) : Bool := match cks[c]? with
  | some q => (u_ws q.1 q.2.1 q.2.2).all (fun w => goodWord w && decide (w ∈ lw_tbl)) && (List.range q.2.2).all (fun a => (List.range q.2.2).all (fun b => decide (a = b) || decide ((q.2.1 a).2.1 ≠ (q.2.1 b).2.1))) && (decide (Cond.instantiable q.1 q.2.2 ∈ lw_tbl) && goodWord (Cond.instantiable q.1 q.2.2)) && (decide (Cond.initialized q.1 ∈ lw_tbl) && goodWord (Cond.initialized q.1)) && decide (q.1 = cn c) &&
    (List.range q.2.2).all (fun a => match parseFieldDescriptor (q.2.1 a).2.2.1 with
    | some .int => decide (ft c a = 1)
    | some .boolean => decide (ft c a = 2)
    | some (.object _) => decide (ft c a = 3)
    | some (.array _) => decide (ft c a = 3)
    | _ => false)
  | none => false
theorem chkK_all : (List.range 12).all chkK = true := by decide +kernel
theorem cks_len : cks.length = 12 := rfl
theorem tb_nat : Cond.native arraycopyName ∈ gtl := tb_in (i := 2133) (by decide +kernel)
theorem tb_acs : Cond.static arraycopyName ∈ gtl := tb_in (i := 2132) (by decide +kernel)
theorem tb_sys : Cond.initialized "java/lang/System" ∈ gtl := tb_in (i := 1014) (by decide +kernel)
theorem tb_obi : Cond.instanceMethod objectInit ∈ gtl := tb_in (i := 1022) (by decide +kernel)
theorem tb_obc : Cond.code objectInit ⟨#[0xb1]⟩ 1 none ∈ gtl := tb_in (i := 1023) (by decide +kernel)
theorem tb_ai : Cond.arrayClass .int ∈ gtl := tb_in (i := 1068) (by decide +kernel)
theorem tb_az : Cond.arrayClass .boolean ∈ gtl := tb_in (i := 1069) (by decide +kernel)
theorem tb_ao : Cond.arrayOver (.object rk10) ∈ lw_tbl := lwc_in (l := tables_1_1) (List.mem_of_getElem? (i := 1) rfl) (List.mem_of_getElem? (i := 176) (by decide +kernel))
theorem tb_mi : Cond.initialized "java/lang/Math" ∈ gtl := tb_in (i := 1015) (by decide +kernel)
theorem tb_mmax : Cond.static Lib.Math.max.name ∈ gtl := tb_in (i := 2200) (by decide +kernel)
theorem tb_mmaxc : Cond.code Lib.Math.max.name Lib.Math.max.code 2 (some .int) ∈ gtl := tb_in (i := 2201) (by decide +kernel)
theorem tb_mmin : Cond.static Lib.Math.min.name ∈ gtl := tb_in (i := 2145) (by decide +kernel)
theorem tb_mminc : Cond.code Lib.Math.min.name Lib.Math.min.code 2 (some .int) ∈ gtl := tb_in (i := 2146) (by decide +kernel)
theorem tb_mabs : Cond.static Lib.Math.abs.name ∈ gtl := tb_in (i := 2197) (by decide +kernel)
theorem tb_mabsc : Cond.code Lib.Math.abs.name Lib.Math.abs.code 1 (some .int) ∈ gtl := tb_in (i := 2198) (by decide +kernel)
theorem nfw : nativeFrameWords "java/lang/System" "arraycopy" 5 ≤ 20 := by decide +kernel
