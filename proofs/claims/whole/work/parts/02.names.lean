/-- the tables' words that a call hands on -/
def Wl : List Cond := lw_tbl.filter goodWord
theorem wl_good : Wl.all goodWord = true := List.all_eq_true.mpr (fun _ h => (List.mem_filter.mp h).2)
theorem wl_in : ∀ w ∈ Wl, w ∈ lw_tbl := fun _ h => (List.mem_filter.mp h).1
theorem tm0 {i : Nat} {w : Cond} (h : (k2_sels lw_privs)[i]? = some w) (g : goodWord w = true) : w ∈ Wl := List.mem_filter.mpr ⟨List.mem_append_left _ (List.mem_of_getElem? h), g⟩
theorem tm1 {i : Nat} {w : Cond} (h : tables_1_1[i]? = some w) (g : goodWord w = true) : w ∈ Wl := List.mem_filter.mpr ⟨List.mem_append_right _ (List.mem_append_left _ (List.mem_of_getElem? h)), g⟩
theorem tm2 {i : Nat} {w : Cond} (h : tables_1_2[i]? = some w) (g : goodWord w = true) : w ∈ Wl := List.mem_filter.mpr ⟨List.mem_append_right _ (List.mem_append_right _ (List.mem_append_left _ (List.mem_of_getElem? h))), g⟩
theorem tm3 {i : Nat} {w : Cond} (h : tables_1_3[i]? = some w) (g : goodWord w = true) : w ∈ Wl := List.mem_filter.mpr ⟨List.mem_append_right _ (List.mem_append_right _ (List.mem_append_right _ (List.mem_append_left _ (List.mem_of_getElem? h)))), g⟩
theorem tm4 {i : Nat} {w : Cond} (h : tables_1_4[i]? = some w) (g : goodWord w = true) : w ∈ Wl := List.mem_filter.mpr ⟨List.mem_append_right _ (List.mem_append_right _ (List.mem_append_right _ (List.mem_append_right _ (List.mem_of_getElem? h)))), g⟩
def TS : u_T := fun k => match k with
  | 0 => ("SendBest", "unitCount", "I", false)
  | 1 => ("SendBest", "skillsOf", "[I", true)
  | 2 => ("SendBest", "isBroken", "[Z", true)
  | 3 => ("SendBest", "stays", "[Z", true)
  | 4 => ("SendBest", "needOf", "[I", true)
  | 5 => ("SendBest", "secondsOf", "[[I", true)
  | 6 => ("SendBest", "incidentCount", "I", false)
  | 7 => ("SendBest", "rankOf", "[I", true)
  | 8 => ("SendBest", "isOpen", "[Z", true)
  | 9 => ("SendBest", "needCount", "I", false)
  | 10 => ("SendBest", "incidentOf", "[I", true)
  | 11 => ("SendBest", "skillOf", "[I", true)
  | 12 => ("SendBest", "unitOf", "[I", true)
  | 13 => ("SendBest", "limitOf", "[I", true)
  | 14 => ("SendBest", "reserveUnits", "I", false)
  | 15 => ("SendBest", "reserveRank", "I", false)
  | _ => ("SendBest", "pairing", "LSendBest$Pairing;", true)
def ftS : Nat → FieldType := fun k => match k with
  | 0 => .int
  | 1 => .array .int
  | 2 => .array .boolean
  | 3 => .array .boolean
  | 4 => .array .int
  | 5 => .array (.array .int)
  | 6 => .int
  | 7 => .array .int
  | 8 => .array .boolean
  | 9 => .int
  | 10 => .array .int
  | 11 => .array .int
  | 12 => .array .int
  | 13 => .array .int
  | 14 => .int
  | 15 => .int
  | _ => .object "SendBest$Pairing"
theorem nmS : ∀ a, a < 17 → ∀ b, b < 17 → a ≠ b → (TS a).2.1 ≠ (TS b).2.1 := by decide +kernel
theorem ftS_ok : ∀ k, k < 17 → parseFieldDescriptor (TS k).2.2.1 = some (ftS k) := by decide +kernel
theorem inS : ∀ w ∈ u_ws "SendBest" TS 17, w ∈ Wl := by
  intro w h
  obtain ⟨k, hk, rfl⟩ := List.mem_map.mp h
  have hk := List.mem_range.mp hk
  match k, hk with
  | 0, _ => exact (tm1 (i := 99) rfl rfl)
  | 1, _ => exact (tm1 (i := 101) rfl rfl)
  | 2, _ => exact (tm1 (i := 103) rfl rfl)
  | 3, _ => exact (tm1 (i := 105) rfl rfl)
  | 4, _ => exact (tm1 (i := 107) rfl rfl)
  | 5, _ => exact (tm1 (i := 109) rfl rfl)
  | 6, _ => exact (tm1 (i := 111) rfl rfl)
  | 7, _ => exact (tm1 (i := 113) rfl rfl)
  | 8, _ => exact (tm1 (i := 115) rfl rfl)
  | 9, _ => exact (tm1 (i := 117) rfl rfl)
  | 10, _ => exact (tm1 (i := 119) rfl rfl)
  | 11, _ => exact (tm1 (i := 121) rfl rfl)
  | 12, _ => exact (tm1 (i := 123) rfl rfl)
  | 13, _ => exact (tm1 (i := 125) rfl rfl)
  | 14, _ => exact (tm1 (i := 127) rfl rfl)
  | 15, _ => exact (tm1 (i := 129) rfl rfl)
  | 16, _ => exact (tm1 (i := 131) rfl rfl)
  | k + 17, hk => exact absurd hk (by omega)
def TP : u_T := fun k => match k with
  | 0 => ("SendBest$Pairing", "rowCount", "I", false)
  | 1 => ("SendBest$Pairing", "unboundCount", "I", false)
  | 2 => ("SendBest$Pairing", "need", "[I", true)
  | 3 => ("SendBest$Pairing", "cost", "[[J", true)
  | 4 => ("SendBest$Pairing", "tie", "[[J", true)
  | 5 => ("SendBest$Pairing", "unitAt", "[I", true)
  | 6 => ("SendBest$Pairing", "rowAt", "[I", true)
  | 7 => ("SendBest$Pairing", "other", "[I", true)
  | 8 => ("SendBest$Pairing", "isFresh", "[Z", true)
  | 9 => ("SendBest$Pairing", "rowCost", "[J", true)
  | 10 => ("SendBest$Pairing", "rowTie", "[J", true)
  | 11 => ("SendBest$Pairing", "cameFrom", "[I", true)
  | 12 => ("SendBest$Pairing", "unitCost", "[J", true)
  | _ => ("SendBest$Pairing", "unitTie", "[J", true)
def ftP : Nat → FieldType := fun k => match k with
  | 0 => .int
  | 1 => .int
  | 2 => .array .int
  | 3 => .array (.array .long)
  | 4 => .array (.array .long)
  | 5 => .array .int
  | 6 => .array .int
  | 7 => .array .int
  | 8 => .array .boolean
  | 9 => .array .long
  | 10 => .array .long
  | 11 => .array .int
  | 12 => .array .long
  | _ => .array .long
theorem nmP : ∀ a, a < 14 → ∀ b, b < 14 → a ≠ b → (TP a).2.1 ≠ (TP b).2.1 := by decide +kernel
theorem ftP_ok : ∀ k, k < 14 → parseFieldDescriptor (TP k).2.2.1 = some (ftP k) := by decide +kernel
theorem inP : ∀ w ∈ u_ws "SendBest$Pairing" TP 14, w ∈ Wl := by
  intro w h
  obtain ⟨k, hk, rfl⟩ := List.mem_map.mp h
  have hk := List.mem_range.mp hk
  match k, hk with
  | 0, _ => exact (tm1 (i := 47) rfl rfl)
  | 1, _ => exact (tm1 (i := 49) rfl rfl)
  | 2, _ => exact (tm1 (i := 51) rfl rfl)
  | 3, _ => exact (tm1 (i := 53) rfl rfl)
  | 4, _ => exact (tm1 (i := 55) rfl rfl)
  | 5, _ => exact (tm1 (i := 57) rfl rfl)
  | 6, _ => exact (tm1 (i := 59) rfl rfl)
  | 7, _ => exact (tm1 (i := 61) rfl rfl)
  | 8, _ => exact (tm1 (i := 63) rfl rfl)
  | 9, _ => exact (tm1 (i := 65) rfl rfl)
  | 10, _ => exact (tm1 (i := 67) rfl rfl)
  | 11, _ => exact (tm1 (i := 69) rfl rfl)
  | 12, _ => exact (tm1 (i := 71) rfl rfl)
  | 13, _ => exact (tm1 (i := 73) rfl rfl)
  | k + 14, hk => exact absurd hk (by omega)
def TM : u_T := fun k => match k with
  | 0 => ("SendBestModel", "thrown", "I", false)
  | 1 => ("SendBestModel", "units", "I", false)
  | 2 => ("SendBestModel", "skills", "[I", true)
  | 3 => ("SendBestModel", "broken", "[Z", true)
  | 4 => ("SendBestModel", "seconds", "[I", true)
  | 5 => ("SendBestModel", "incidents", "I", false)
  | 6 => ("SendBestModel", "rank", "[I", true)
  | 7 => ("SendBestModel", "closed", "[Z", true)
  | 8 => ("SendBestModel", "needs", "I", false)
  | 9 => ("SendBestModel", "incidentOf", "[I", true)
  | 10 => ("SendBestModel", "skillOf", "[I", true)
  | 11 => ("SendBestModel", "filled", "[I", true)
  | 12 => ("SendBestModel", "stays", "[Z", true)
  | 13 => ("SendBestModel", "limit", "[I", true)
  | 14 => ("SendBestModel", "reserve", "I", false)
  | 15 => ("SendBestModel", "below", "I", false)
  | 16 => ("SendBestModel", "row", "[I", true)
  | 17 => ("SendBestModel", "rows", "I", false)
  | _ => ("SendBestModel", "least", "[J", true)
def ftM : Nat → FieldType := fun k => match k with
  | 0 => .int
  | 1 => .int
  | 2 => .array .int
  | 3 => .array .boolean
  | 4 => .array .int
  | 5 => .int
  | 6 => .array .int
  | 7 => .array .boolean
  | 8 => .int
  | 9 => .array .int
  | 10 => .array .int
  | 11 => .array .int
  | 12 => .array .boolean
  | 13 => .array .int
  | 14 => .int
  | 15 => .int
  | 16 => .array .int
  | 17 => .int
  | _ => .array .long
theorem nmM : ∀ a, a < 19 → ∀ b, b < 19 → a ≠ b → (TM a).2.1 ≠ (TM b).2.1 := by decide +kernel
theorem ftM_ok : ∀ k, k < 19 → parseFieldDescriptor (TM k).2.2.1 = some (ftM k) := by decide +kernel
theorem inM : ∀ w ∈ u_ws "SendBestModel" TM 19, w ∈ Wl := by
  intro w h
  obtain ⟨k, hk, rfl⟩ := List.mem_map.mp h
  have hk := List.mem_range.mp hk
  match k, hk with
  | 0, _ => exact (tm3 (i := 122) rfl rfl)
  | 1, _ => exact (tm3 (i := 124) rfl rfl)
  | 2, _ => exact (tm3 (i := 126) rfl rfl)
  | 3, _ => exact (tm3 (i := 128) rfl rfl)
  | 4, _ => exact (tm3 (i := 130) rfl rfl)
  | 5, _ => exact (tm3 (i := 132) rfl rfl)
  | 6, _ => exact (tm3 (i := 134) rfl rfl)
  | 7, _ => exact (tm3 (i := 136) rfl rfl)
  | 8, _ => exact (tm3 (i := 138) rfl rfl)
  | 9, _ => exact (tm3 (i := 140) rfl rfl)
  | 10, _ => exact (tm3 (i := 142) rfl rfl)
  | 11, _ => exact (tm3 (i := 144) rfl rfl)
  | 12, _ => exact (tm3 (i := 146) rfl rfl)
  | 13, _ => exact (tm3 (i := 148) rfl rfl)
  | 14, _ => exact (tm3 (i := 150) rfl rfl)
  | 15, _ => exact (tm3 (i := 152) rfl rfl)
  | 16, _ => exact (tm3 (i := 154) rfl rfl)
  | 17, _ => exact (tm3 (i := 156) rfl rfl)
  | 18, _ => exact (tm3 (i := 158) rfl rfl)
  | k + 19, hk => exact absurd hk (by omega)
abbrev vwCl : List vw_C := [("SendBest$Pairing", TP, 14), ("SendBest", TS, 17), ("SendBestModel", TM, 19)]
abbrev cS_init : ByteArray := prog_1_method_1_code
def yS_init : MethodName := ⟨"SendBest", "<init>", "()V"⟩
abbrev cS_unit : ByteArray := prog_1_method_2_code
def yS_unit : MethodName := ⟨"SendBest", "unit", "(I)I"⟩
abbrev cS_incident : ByteArray := prog_1_method_3_code
def yS_incident : MethodName := ⟨"SendBest", "incident", "(I)I"⟩
abbrev cS_rank : ByteArray := prog_1_method_4_code
def yS_rank : MethodName := ⟨"SendBest", "rank", "(II)V"⟩
abbrev cS_need : ByteArray := prog_1_method_5_code
def yS_need : MethodName := ⟨"SendBest", "need", "(III)I"⟩
abbrev cS_seconds : ByteArray := prog_1_method_6_code
def yS_seconds : MethodName := ⟨"SendBest", "seconds", "(III)V"⟩
abbrev cS_limit : ByteArray := prog_1_method_7_code
def yS_limit : MethodName := ⟨"SendBest", "limit", "(II)V"⟩
abbrev cS_reserve : ByteArray := prog_1_method_8_code
def yS_reserve : MethodName := ⟨"SendBest", "reserve", "(II)V"⟩
abbrev cS_broken : ByteArray := prog_1_method_9_code
def yS_broken : MethodName := ⟨"SendBest", "broken", "(IZ)V"⟩
abbrev cS_send : ByteArray := prog_1_method_10_code
def yS_send : MethodName := ⟨"SendBest", "send", "(I)I"⟩
abbrev cS_stay : ByteArray := prog_1_method_11_code
def yS_stay : MethodName := ⟨"SendBest", "stay", "(IZ)V"⟩
abbrev cS_recall : ByteArray := prog_1_method_12_code
def yS_recall : MethodName := ⟨"SendBest", "recall", "(I)V"⟩
abbrev cS_close : ByteArray := prog_1_method_13_code
def yS_close : MethodName := ⟨"SendBest", "close", "(I)V"⟩
abbrev cS_needAt : ByteArray := prog_1_method_14_code
def yS_needAt : MethodName := ⟨"SendBest", "needAt", "(II)I"⟩
abbrev cS_fills : ByteArray := prog_1_method_15_code
def yS_fills : MethodName := ⟨"SendBest", "fills", "(I)I"⟩
abbrev cS_sum : ByteArray := prog_1_method_16_code
def yS_sum : MethodName := ⟨"SendBest", "sum", "(I)I"⟩
abbrev cS_alternative : ByteArray := prog_1_method_17_code
def yS_alternative : MethodName := ⟨"SendBest", "alternative", "(I)I"⟩
abbrev cS_never : ByteArray := prog_1_method_18_code
def yS_never : MethodName := ⟨"SendBest", "never", "(I)I"⟩
abbrev cS_checkUnit : ByteArray := prog_1_method_19_code
def yS_checkUnit : MethodName := ⟨"SendBest", "checkUnit", "(I)V"⟩
abbrev cS_checkIncident : ByteArray := prog_1_method_20_code
def yS_checkIncident : MethodName := ⟨"SendBest", "checkIncident", "(I)V"⟩
abbrev cS_checkNeed : ByteArray := prog_1_method_21_code
def yS_checkNeed : MethodName := ⟨"SendBest", "checkNeed", "(I)V"⟩
abbrev cS_checkSkill : ByteArray := prog_1_method_22_code
def yS_checkSkill : MethodName := ⟨"SendBest", "checkSkill", "(I)V"⟩
abbrev cS_checkRank : ByteArray := prog_1_method_23_code
def yS_checkRank : MethodName := ⟨"SendBest", "checkRank", "(I)V"⟩
abbrev cS_checkSeconds : ByteArray := prog_1_method_24_code
def yS_checkSeconds : MethodName := ⟨"SendBest", "checkSeconds", "(I)V"⟩
abbrev cS_checkOpen : ByteArray := prog_1_method_25_code
def yS_checkOpen : MethodName := ⟨"SendBest", "checkOpen", "(I)V"⟩
abbrev cS_checkSent : ByteArray := prog_1_method_26_code
def yS_checkSent : MethodName := ⟨"SendBest", "checkSent", "(I)V"⟩
abbrev cS_isOpenNeed : ByteArray := prog_1_method_27_code
def yS_isOpenNeed : MethodName := ⟨"SendBest", "isOpenNeed", "(I)Z"⟩
abbrev cS_rankOfNeed : ByteArray := prog_1_method_28_code
def yS_rankOfNeed : MethodName := ⟨"SendBest", "rankOfNeed", "(I)I"⟩
abbrev cS_secondsTo : ByteArray := prog_1_method_29_code
def yS_secondsTo : MethodName := ⟨"SendBest", "secondsTo", "(II)I"⟩
abbrev cS_canFill : ByteArray := prog_1_method_30_code
def yS_canFill : MethodName := ⟨"SendBest", "canFill", "(II)Z"⟩
abbrev cS_anyCanFill : ByteArray := prog_1_method_31_code
def yS_anyCanFill : MethodName := ⟨"SendBest", "anyCanFill", "(I)Z"⟩
abbrev cS_isFixed : ByteArray := prog_1_method_32_code
def yS_isFixed : MethodName := ⟨"SendBest", "isFixed", "(I)Z"⟩
abbrev cS_hasFixedUnit : ByteArray := prog_1_method_33_code
def yS_hasFixedUnit : MethodName := ⟨"SendBest", "hasFixedUnit", "(I)Z"⟩
abbrev cS_ranksLacking : ByteArray := prog_1_method_34_code
def yS_ranksLacking : MethodName := ⟨"SendBest", "ranksLacking", "(I)I"⟩
abbrev cS_weightedSeconds : ByteArray := prog_1_method_35_code
def yS_weightedSeconds : MethodName := ⟨"SendBest", "weightedSeconds", "(I)I"⟩
abbrev cS_countFilled : ByteArray := prog_1_method_36_code
def yS_countFilled : MethodName := ⟨"SendBest", "countFilled", "()I"⟩
abbrev cS_free : ByteArray := prog_1_method_37_code
def yS_free : MethodName := ⟨"SendBest", "free", "(I)V"⟩
abbrev cS_layOutNeeds : ByteArray := prog_1_method_38_code
def yS_layOutNeeds : MethodName := ⟨"SendBest", "layOutNeeds", "()V"⟩
abbrev cS_addNeeds : ByteArray := prog_1_method_39_code
def yS_addNeeds : MethodName := ⟨"SendBest", "addNeeds", "(Z)V"⟩
abbrev cS_addNeed : ByteArray := prog_1_method_40_code
def yS_addNeed : MethodName := ⟨"SendBest", "addNeed", "(I)V"⟩
abbrev cS_spareUnits : ByteArray := prog_1_method_41_code
def yS_spareUnits : MethodName := ⟨"SendBest", "spareUnits", "()I"⟩
abbrev cS_presentStays : ByteArray := prog_1_method_42_code
def yS_presentStays : MethodName := ⟨"SendBest", "presentStays", "(II)Z"⟩
abbrev cS_takeBest : ByteArray := prog_1_method_43_code
def yS_takeBest : MethodName := ⟨"SendBest", "takeBest", "()V"⟩
abbrev cP_init : ByteArray := prog_2_method_1_code
def yP_init : MethodName := ⟨"SendBest$Pairing", "<init>", "()V"⟩
abbrev cP_clear : ByteArray := prog_2_method_2_code
def yP_clear : MethodName := ⟨"SendBest$Pairing", "clear", "()V"⟩
abbrev cP_addRow : ByteArray := prog_2_method_3_code
def yP_addRow : MethodName := ⟨"SendBest$Pairing", "addRow", "(I)I"⟩
abbrev cP_endUnbound : ByteArray := prog_2_method_4_code
def yP_endUnbound : MethodName := ⟨"SendBest$Pairing", "endUnbound", "()V"⟩
abbrev cP_allow : ByteArray := prog_2_method_5_code
def yP_allow : MethodName := ⟨"SendBest$Pairing", "allow", "(IIII)V"⟩
abbrev cP_rows : ByteArray := prog_2_method_6_code
def yP_rows : MethodName := ⟨"SendBest$Pairing", "rows", "()I"⟩
abbrev cP_needOfRow : ByteArray := prog_2_method_7_code
def yP_needOfRow : MethodName := ⟨"SendBest$Pairing", "needOfRow", "(I)I"⟩
abbrev cP_bestUnit : ByteArray := prog_2_method_8_code
def yP_bestUnit : MethodName := ⟨"SendBest$Pairing", "bestUnit", "(I)I"⟩
abbrev cP_setPresent : ByteArray := prog_2_method_9_code
def yP_setPresent : MethodName := ⟨"SendBest$Pairing", "setPresent", "(II)V"⟩
abbrev cP_presentIsPlan : ByteArray := prog_2_method_10_code
def yP_presentIsPlan : MethodName := ⟨"SendBest$Pairing", "presentIsPlan", "(I)Z"⟩
abbrev cP_savedByBest : ByteArray := prog_2_method_11_code
def yP_savedByBest : MethodName := ⟨"SendBest$Pairing", "savedByBest", "()J"⟩
abbrev cP_findBest : ByteArray := prog_2_method_12_code
def yP_findBest : MethodName := ⟨"SendBest$Pairing", "findBest", "(I)V"⟩
abbrev cP_total : ByteArray := prog_2_method_13_code
def yP_total : MethodName := ⟨"SendBest$Pairing", "total", "([[J[I)J"⟩
abbrev cP_isLess : ByteArray := prog_2_method_14_code
def yP_isLess : MethodName := ⟨"SendBest$Pairing", "isLess", "(JJJJ)Z"⟩
abbrev cP_pair : ByteArray := prog_2_method_15_code
def yP_pair : MethodName := ⟨"SendBest$Pairing", "pair", "(II)V"⟩
abbrev cP_findPaths : ByteArray := prog_2_method_16_code
def yP_findPaths : MethodName := ⟨"SendBest$Pairing", "findPaths", "(I)V"⟩
abbrev cP_spread : ByteArray := prog_2_method_17_code
def yP_spread : MethodName := ⟨"SendBest$Pairing", "spread", "(I)V"⟩
abbrev cP_reach : ByteArray := prog_2_method_18_code
def yP_reach : MethodName := ⟨"SendBest$Pairing", "reach", "(II)V"⟩
abbrev cP_cheapestEnd : ByteArray := prog_2_method_19_code
def yP_cheapestEnd : MethodName := ⟨"SendBest$Pairing", "cheapestEnd", "()I"⟩
abbrev cP_turnPath : ByteArray := prog_2_method_20_code
def yP_turnPath : MethodName := ⟨"SendBest$Pairing", "turnPath", "(I)V"⟩
abbrev cM_init : ByteArray := prog_4_method_1_code
def yM_init : MethodName := ⟨"SendBestModel", "<init>", "()V"⟩
abbrev cM_thrown : ByteArray := prog_4_method_2_code
def yM_thrown : MethodName := ⟨"SendBestModel", "thrown", "()I"⟩
abbrev cM_throwing : ByteArray := prog_4_method_3_code
def yM_throwing : MethodName := ⟨"SendBestModel", "throwing", "(ZZZZ)Z"⟩
abbrev cM_in : ByteArray := prog_4_method_4_code
def yM_in : MethodName := ⟨"SendBestModel", "in", "(III)Z"⟩
abbrev cM_isUnit : ByteArray := prog_4_method_5_code
def yM_isUnit : MethodName := ⟨"SendBestModel", "isUnit", "(I)Z"⟩
abbrev cM_isIncident : ByteArray := prog_4_method_6_code
def yM_isIncident : MethodName := ⟨"SendBestModel", "isIncident", "(I)Z"⟩
abbrev cM_unit : ByteArray := prog_4_method_7_code
def yM_unit : MethodName := ⟨"SendBestModel", "unit", "(I)I"⟩
abbrev cM_incident : ByteArray := prog_4_method_8_code
def yM_incident : MethodName := ⟨"SendBestModel", "incident", "(I)I"⟩
abbrev cM_rank : ByteArray := prog_4_method_9_code
def yM_rank : MethodName := ⟨"SendBestModel", "rank", "(II)V"⟩
abbrev cM_need : ByteArray := prog_4_method_10_code
def yM_need : MethodName := ⟨"SendBestModel", "need", "(III)I"⟩
abbrev cM_seconds : ByteArray := prog_4_method_11_code
def yM_seconds : MethodName := ⟨"SendBestModel", "seconds", "(III)V"⟩
abbrev cM_limit : ByteArray := prog_4_method_12_code
def yM_limit : MethodName := ⟨"SendBestModel", "limit", "(II)V"⟩
abbrev cM_reserve : ByteArray := prog_4_method_13_code
def yM_reserve : MethodName := ⟨"SendBestModel", "reserve", "(II)V"⟩
abbrev cM_needOf : ByteArray := prog_4_method_14_code
def yM_needOf : MethodName := ⟨"SendBestModel", "needOf", "(I)I"⟩
abbrev cM_leave : ByteArray := prog_4_method_15_code
def yM_leave : MethodName := ⟨"SendBestModel", "leave", "(I)V"⟩
abbrev cM_broken : ByteArray := prog_4_method_16_code
def yM_broken : MethodName := ⟨"SendBestModel", "broken", "(IZ)V"⟩
abbrev cM_isOpen : ByteArray := prog_4_method_17_code
def yM_isOpen : MethodName := ⟨"SendBestModel", "isOpen", "(I)Z"⟩
abbrev cM_canFill : ByteArray := prog_4_method_18_code
def yM_canFill : MethodName := ⟨"SendBestModel", "canFill", "(II)Z"⟩
abbrev cM_isFixed : ByteArray := prog_4_method_19_code
def yM_isFixed : MethodName := ⟨"SendBestModel", "isFixed", "(I)Z"⟩
abbrev cM_rankOf : ByteArray := prog_4_method_20_code
def yM_rankOf : MethodName := ⟨"SendBestModel", "rankOf", "(I)I"⟩
abbrev cM_most : ByteArray := prog_4_method_21_code
def yM_most : MethodName := ⟨"SendBestModel", "most", "()I"⟩
abbrev cM_fixedUnits : ByteArray := prog_4_method_22_code
def yM_fixedUnits : MethodName := ⟨"SendBestModel", "fixedUnits", "()I"⟩
abbrev cM_ones : ByteArray := prog_4_method_23_code
def yM_ones : MethodName := ⟨"SendBestModel", "ones", "(I)I"⟩
abbrev cM_gather : ByteArray := prog_4_method_24_code
def yM_gather : MethodName := ⟨"SendBestModel", "gather", "()V"⟩
abbrev cM_may : ByteArray := prog_4_method_25_code
def yM_may : MethodName := ⟨"SendBestModel", "may", "(III)Z"⟩
abbrev cM_with : ByteArray := prog_4_method_26_code
def yM_with : MethodName := ⟨"SendBestModel", "with", "(III)J"⟩
abbrev cM_without : ByteArray := prog_4_method_27_code
def yM_without : MethodName := ⟨"SendBestModel", "without", "(II)J"⟩
abbrev cM_reckon : ByteArray := prog_4_method_28_code
def yM_reckon : MethodName := ⟨"SendBestModel", "reckon", "()V"⟩
abbrev cM_present : ByteArray := prog_4_method_29_code
def yM_present : MethodName := ⟨"SendBestModel", "present", "()J"⟩
abbrev cM_send : ByteArray := prog_4_method_30_code
def yM_send : MethodName := ⟨"SendBestModel", "send", "(I)I"⟩
abbrev cM_stay : ByteArray := prog_4_method_31_code
def yM_stay : MethodName := ⟨"SendBestModel", "stay", "(IZ)V"⟩
abbrev cM_recall : ByteArray := prog_4_method_32_code
def yM_recall : MethodName := ⟨"SendBestModel", "recall", "(I)V"⟩
abbrev cM_close : ByteArray := prog_4_method_33_code
def yM_close : MethodName := ⟨"SendBestModel", "close", "(I)V"⟩
abbrev cM_needAt : ByteArray := prog_4_method_34_code
def yM_needAt : MethodName := ⟨"SendBestModel", "needAt", "(II)I"⟩
abbrev cM_fills : ByteArray := prog_4_method_35_code
def yM_fills : MethodName := ⟨"SendBestModel", "fills", "(I)I"⟩
abbrev cM_sum : ByteArray := prog_4_method_36_code
def yM_sum : MethodName := ⟨"SendBestModel", "sum", "(I)I"⟩
abbrev cM_alternative : ByteArray := prog_4_method_37_code
def yM_alternative : MethodName := ⟨"SendBestModel", "alternative", "(I)I"⟩
abbrev cM_never : ByteArray := prog_4_method_38_code
def yM_never : MethodName := ⟨"SendBestModel", "never", "(I)I"⟩
