theorem ztc1 (i : Nat) {w : Cond} (h : tables_1_1[i]? = some w) (g : goodWord w = true) : w ∈ zT := List.mem_filter.mpr ⟨List.mem_append_right _ (List.mem_append_left _ (List.mem_of_getElem? h)), g⟩
theorem ztc2 (i : Nat) {w : Cond} (h : tables_1_2[i]? = some w) (g : goodWord w = true) : w ∈ zT := List.mem_filter.mpr ⟨List.mem_append_right _ (List.mem_append_right _ (List.mem_append_left _ (List.mem_of_getElem? h))), g⟩
theorem ztc3 (i : Nat) {w : Cond} (h : tables_1_3[i]? = some w) (g : goodWord w = true) : w ∈ zT := List.mem_filter.mpr ⟨List.mem_append_right _ (List.mem_append_right _ (List.mem_append_right _ (List.mem_append_left _ (List.mem_of_getElem? h)))), g⟩
theorem ztc4 (i : Nat) {w : Cond} (h : tables_1_4[i]? = some w) (g : goodWord w = true) : w ∈ zT := List.mem_filter.mpr ⟨List.mem_append_right _ (List.mem_append_right _ (List.mem_append_right _ (List.mem_append_right _ (List.mem_append_left _ (List.mem_of_getElem? h))))), g⟩
theorem ztc5 (i : Nat) {w : Cond} (h : tables_1_5[i]? = some w) (g : goodWord w = true) : w ∈ zT := List.mem_filter.mpr ⟨List.mem_append_right _ (List.mem_append_right _ (List.mem_append_right _ (List.mem_append_right _ (List.mem_append_right _ (List.mem_append_left _ (List.mem_of_getElem? h)))))), g⟩
theorem ztc6 (i : Nat) {w : Cond} (h : tables_1_6[i]? = some w) (g : goodWord w = true) : w ∈ zT := List.mem_filter.mpr ⟨List.mem_append_right _ (List.mem_append_right _ (List.mem_append_right _ (List.mem_append_right _ (List.mem_append_right _ (List.mem_append_right _ (List.mem_append_left _ (List.mem_of_getElem? h))))))), g⟩
theorem ztc7 (i : Nat) {w : Cond} (h : tables_1_7[i]? = some w) (g : goodWord w = true) : w ∈ zT := List.mem_filter.mpr ⟨List.mem_append_right _ (List.mem_append_right _ (List.mem_append_right _ (List.mem_append_right _ (List.mem_append_right _ (List.mem_append_right _ (List.mem_append_right _ (List.mem_append_left _ (List.mem_of_getElem? h)))))))), g⟩
theorem ztc8 (i : Nat) {w : Cond} (h : tables_1_8[i]? = some w) (g : goodWord w = true) : w ∈ zT := List.mem_filter.mpr ⟨List.mem_append_right _ (List.mem_append_right _ (List.mem_append_right _ (List.mem_append_right _ (List.mem_append_right _ (List.mem_append_right _ (List.mem_append_right _ (List.mem_append_right _ (List.mem_append_left _ (List.mem_of_getElem? h))))))))), g⟩
theorem ztc9 (i : Nat) {w : Cond} (h : tables_1_9[i]? = some w) (g : goodWord w = true) : w ∈ zT := List.mem_filter.mpr ⟨List.mem_append_right _ (List.mem_append_right _ (List.mem_append_right _ (List.mem_append_right _ (List.mem_append_right _ (List.mem_append_right _ (List.mem_append_right _ (List.mem_append_right _ (List.mem_append_right _ (List.mem_append_left _ (List.mem_of_getElem? h)))))))))), g⟩
theorem ztc10 (i : Nat) {w : Cond} (h : tables_1_10[i]? = some w) (g : goodWord w = true) : w ∈ zT := List.mem_filter.mpr ⟨List.mem_append_right _ (List.mem_append_right _ (List.mem_append_right _ (List.mem_append_right _ (List.mem_append_right _ (List.mem_append_right _ (List.mem_append_right _ (List.mem_append_right _ (List.mem_append_right _ (List.mem_append_right _ (List.mem_of_getElem? h)))))))))), g⟩
theorem ztp (i : Nat) {q : MethodName × Nat} (h : lw_privs[i]? = some q) : Cond.selects q.1.cls q.1 q.1 ∈ zT := List.mem_filter.mpr ⟨List.mem_append_left _ (List.mem_map.mpr ⟨q, List.mem_of_getElem? h, rfl⟩), rfl⟩
abbrev c_T_init : ByteArray := prog_9_method_1_code
def y_T_init : MethodName := ⟨"GentleRoad$Tape", "<init>", "()V"⟩
abbrev c_T_hasRoom : ByteArray := prog_9_method_2_code
def y_T_hasRoom : MethodName := ⟨"GentleRoad$Tape", "hasRoom", "()Z"⟩
abbrev c_T_add : ByteArray := prog_9_method_3_code
def y_T_add : MethodName := ⟨"GentleRoad$Tape", "add", "(I)V"⟩
abbrev c_T_cut : ByteArray := prog_9_method_4_code
def y_T_cut : MethodName := ⟨"GentleRoad$Tape", "cut", "(I)Z"⟩
abbrev c_T_size : ByteArray := prog_9_method_5_code
def y_T_size : MethodName := ⟨"GentleRoad$Tape", "size", "()I"⟩
abbrev c_T_byteAt : ByteArray := prog_9_method_6_code
def y_T_byteAt : MethodName := ⟨"GentleRoad$Tape", "byteAt", "(I)I"⟩
theorem yk_T_hasRoom : zYv y_T_hasRoom c_T_hasRoom 1 (some .boolean) 0 := ⟨ztc2 96 rfl rfl, ztc2 94 (by decide +kernel) rfl, ztc2 95 (by decide +kernel) rfl, ztc1 2 (by decide +kernel) rfl, by decide +kernel⟩
theorem yk_T_add : zYv y_T_add c_T_add 3 none 1 := ⟨ztc2 100 rfl rfl, ztc2 98 (by decide +kernel) rfl, ztc2 99 (by decide +kernel) rfl, ztc1 2 (by decide +kernel) rfl, by decide +kernel⟩
theorem yk_T_cut : zYv y_T_cut c_T_cut 2 (some .boolean) 1 := ⟨ztc2 112 rfl rfl, ztc2 110 (by decide +kernel) rfl, ztc2 111 (by decide +kernel) rfl, ztc1 2 (by decide +kernel) rfl, by decide +kernel⟩
theorem yk_T_size : zYv y_T_size c_T_size 1 (some .int) 0 := ⟨ztc2 104 rfl rfl, ztc2 102 (by decide +kernel) rfl, ztc2 103 (by decide +kernel) rfl, ztc1 2 (by decide +kernel) rfl, by decide +kernel⟩
theorem yk_T_byteAt : zYv y_T_byteAt c_T_byteAt 2 (some .int) 1 := ⟨ztc2 236 rfl rfl, ztc2 234 (by decide +kernel) rfl, ztc2 235 (by decide +kernel) rfl, ztc1 2 (by decide +kernel) rfl, by decide +kernel⟩
abbrev c_L_init : ByteArray := prog_4_method_1_code
def y_L_init : MethodName := ⟨"GentleRoad$Land", "<init>", "()V"⟩
abbrev c_L_take : ByteArray := prog_4_method_2_code
def y_L_take : MethodName := ⟨"GentleRoad$Land", "take", "([II)V"⟩
abbrev c_L_copyTo : ByteArray := prog_4_method_3_code
def y_L_copyTo : MethodName := ⟨"GentleRoad$Land", "copyTo", "([II)V"⟩
abbrev c_L_layOut : ByteArray := prog_4_method_4_code
def y_L_layOut : MethodName := ⟨"GentleRoad$Land", "layOut", "()V"⟩
abbrev c_L_layOutPlace : ByteArray := prog_4_method_5_code
def y_L_layOutPlace : MethodName := ⟨"GentleRoad$Land", "layOutPlace", "(II)V"⟩
abbrev c_L_wide : ByteArray := prog_4_method_6_code
def y_L_wide : MethodName := ⟨"GentleRoad$Land", "wide", "()I"⟩
abbrev c_L_deep : ByteArray := prog_4_method_7_code
def y_L_deep : MethodName := ⟨"GentleRoad$Land", "deep", "()I"⟩
abbrev c_L_places : ByteArray := prog_4_method_8_code
def y_L_places : MethodName := ⟨"GentleRoad$Land", "places", "()I"⟩
abbrev c_L_value : ByteArray := prog_4_method_9_code
def y_L_value : MethodName := ⟨"GentleRoad$Land", "value", "(I)I"⟩
abbrev c_L_setValue : ByteArray := prog_4_method_10_code
def y_L_setValue : MethodName := ⟨"GentleRoad$Land", "setValue", "(II)V"⟩
abbrev c_L_height : ByteArray := prog_4_method_11_code
def y_L_height : MethodName := ⟨"GentleRoad$Land", "height", "(I)I"⟩
abbrev c_L_setHeight : ByteArray := prog_4_method_12_code
def y_L_setHeight : MethodName := ⟨"GentleRoad$Land", "setHeight", "(II)V"⟩
abbrev c_L_isWet : ByteArray := prog_4_method_13_code
def y_L_isWet : MethodName := ⟨"GentleRoad$Land", "isWet", "(I)Z"⟩
abbrev c_L_setWet : ByteArray := prog_4_method_14_code
def y_L_setWet : MethodName := ⟨"GentleRoad$Land", "setWet", "(IZ)V"⟩
abbrev c_L_wetPlaces : ByteArray := prog_4_method_15_code
def y_L_wetPlaces : MethodName := ⟨"GentleRoad$Land", "wetPlaces", "()I"⟩
abbrev c_L_isBuilt : ByteArray := prog_4_method_16_code
def y_L_isBuilt : MethodName := ⟨"GentleRoad$Land", "isBuilt", "(I)Z"⟩
abbrev c_L_roadSize : ByteArray := prog_4_method_17_code
def y_L_roadSize : MethodName := ⟨"GentleRoad$Land", "roadSize", "(I)I"⟩
abbrev c_L_roadPlace : ByteArray := prog_4_method_18_code
def y_L_roadPlace : MethodName := ⟨"GentleRoad$Land", "roadPlace", "(II)I"⟩
abbrev c_L_roadOffset : ByteArray := prog_4_method_19_code
def y_L_roadOffset : MethodName := ⟨"GentleRoad$Land", "roadOffset", "(II)I"⟩
abbrev c_L_setRoadOffset : ByteArray := prog_4_method_20_code
def y_L_setRoadOffset : MethodName := ⟨"GentleRoad$Land", "setRoadOffset", "(III)V"⟩
abbrev c_L_clearRoad : ByteArray := prog_4_method_21_code
def y_L_clearRoad : MethodName := ⟨"GentleRoad$Land", "clearRoad", "(I)V"⟩
abbrev c_L_setRoad : ByteArray := prog_4_method_22_code
def y_L_setRoad : MethodName := ⟨"GentleRoad$Land", "setRoad", "(I[II)V"⟩
abbrev c_L_builtBits : ByteArray := prog_4_method_23_code
def y_L_builtBits : MethodName := ⟨"GentleRoad$Land", "builtBits", "()I"⟩
abbrev c_L_roadHeading : ByteArray := prog_4_method_24_code
def y_L_roadHeading : MethodName := ⟨"GentleRoad$Land", "roadHeading", "(II)I"⟩
abbrev c_L_headingTo : ByteArray := prog_4_method_25_code
def y_L_headingTo : MethodName := ⟨"GentleRoad$Land", "headingTo", "(II)I"⟩
abbrev c_L_besideOf : ByteArray := prog_4_method_26_code
def y_L_besideOf : MethodName := ⟨"GentleRoad$Land", "besideOf", "(II)I"⟩
abbrev c_L_isEdge : ByteArray := prog_4_method_27_code
def y_L_isEdge : MethodName := ⟨"GentleRoad$Land", "isEdge", "(I)Z"⟩
abbrev c_L_differ : ByteArray := prog_4_method_28_code
def y_L_differ : MethodName := ⟨"GentleRoad$Land", "differ", "(II)I"⟩
abbrev c_L_isOpen : ByteArray := prog_4_method_29_code
def y_L_isOpen : MethodName := ⟨"GentleRoad$Land", "isOpen", "(II)Z"⟩
abbrev c_L_isSteep : ByteArray := prog_4_method_30_code
def y_L_isSteep : MethodName := ⟨"GentleRoad$Land", "isSteep", "(III)Z"⟩
abbrev c_L_canStep : ByteArray := prog_4_method_31_code
def y_L_canStep : MethodName := ⟨"GentleRoad$Land", "canStep", "(II)Z"⟩
abbrev c_L_stepBits : ByteArray := prog_4_method_32_code
def y_L_stepBits : MethodName := ⟨"GentleRoad$Land", "stepBits", "(I)I"⟩
abbrev c_L_isFlat : ByteArray := prog_4_method_33_code
def y_L_isFlat : MethodName := ⟨"GentleRoad$Land", "isFlat", "(I)Z"⟩
abbrev c_L_stepCost : ByteArray := prog_4_method_34_code
def y_L_stepCost : MethodName := ⟨"GentleRoad$Land", "stepCost", "(II)I"⟩
abbrev c_L_bendCost : ByteArray := prog_4_method_35_code
def y_L_bendCost : MethodName := ⟨"GentleRoad$Land", "bendCost", "(I)I"⟩
theorem yk_L_take : zYv y_L_take c_L_take 3 none 2 := ⟨ztc2 132 rfl rfl, ztc2 130 (by decide +kernel) rfl, ztc2 131 (by decide +kernel) rfl, ztc1 3 (by decide +kernel) rfl, by decide +kernel⟩
theorem yk_L_copyTo : zYv y_L_copyTo c_L_copyTo 3 none 2 := ⟨ztc2 124 rfl rfl, ztc2 122 (by decide +kernel) rfl, ztc2 123 (by decide +kernel) rfl, ztc1 3 (by decide +kernel) rfl, by decide +kernel⟩
theorem yk_L_layOut : zYv y_L_layOut c_L_layOut 3 none 0 := ⟨ztc2 136 rfl rfl, ztc2 135 (by decide +kernel) rfl, ztp (q := (y_L_layOut, 2)) 0 (by decide +kernel), ztc1 3 (by decide +kernel) rfl, by decide +kernel⟩
theorem yk_L_layOutPlace : zYv y_L_layOutPlace c_L_layOutPlace 7 none 2 := ⟨ztc2 148 rfl rfl, ztc2 147 (by decide +kernel) rfl, ztp (q := (y_L_layOutPlace, 2)) 1 (by decide +kernel), ztc1 3 (by decide +kernel) rfl, by decide +kernel⟩
theorem yk_L_wide : zYv y_L_wide c_L_wide 1 (some .int) 0 := ⟨ztc2 144 rfl rfl, ztc2 142 (by decide +kernel) rfl, ztc2 143 (by decide +kernel) rfl, ztc1 3 (by decide +kernel) rfl, by decide +kernel⟩
theorem yk_L_deep : zYv y_L_deep c_L_deep 1 (some .int) 0 := ⟨ztc2 140 rfl rfl, ztc2 138 (by decide +kernel) rfl, ztc2 139 (by decide +kernel) rfl, ztc1 3 (by decide +kernel) rfl, by decide +kernel⟩
theorem yk_L_places : zYv y_L_places c_L_places 1 (some .int) 0 := ⟨ztc2 170 rfl rfl, ztc2 168 (by decide +kernel) rfl, ztc2 169 (by decide +kernel) rfl, ztc1 3 (by decide +kernel) rfl, by decide +kernel⟩
theorem yk_L_value : zYv y_L_value c_L_value 2 (some .int) 1 := ⟨ztc3 234 rfl rfl, ztc3 232 (by decide +kernel) rfl, ztc3 233 (by decide +kernel) rfl, ztc1 3 (by decide +kernel) rfl, by decide +kernel⟩
theorem yk_L_setValue : zYv y_L_setValue c_L_setValue 3 none 2 := ⟨ztc4 53 rfl rfl, ztc4 51 (by decide +kernel) rfl, ztc4 52 (by decide +kernel) rfl, ztc1 3 (by decide +kernel) rfl, by decide +kernel⟩
theorem yk_L_height : zYv y_L_height c_L_height 2 (some .int) 1 := ⟨ztc2 199 rfl rfl, ztc2 197 (by decide +kernel) rfl, ztc2 198 (by decide +kernel) rfl, ztc1 3 (by decide +kernel) rfl, by decide +kernel⟩
theorem yk_L_setHeight : zYv y_L_setHeight c_L_setHeight 3 none 2 := ⟨ztc4 64 rfl rfl, ztc4 62 (by decide +kernel) rfl, ztc4 63 (by decide +kernel) rfl, ztc1 3 (by decide +kernel) rfl, by decide +kernel⟩
theorem yk_L_isWet : zYv y_L_isWet c_L_isWet 2 (some .boolean) 1 := ⟨ztc3 221 rfl rfl, ztc3 219 (by decide +kernel) rfl, ztc3 220 (by decide +kernel) rfl, ztc1 3 (by decide +kernel) rfl, by decide +kernel⟩
theorem yk_L_setWet : zYv y_L_setWet c_L_setWet 3 none 2 := ⟨ztc4 75 rfl rfl, ztc4 73 (by decide +kernel) rfl, ztc4 74 (by decide +kernel) rfl, ztc1 3 (by decide +kernel) rfl, by decide +kernel⟩
theorem yk_L_wetPlaces : zYv y_L_wetPlaces c_L_wetPlaces 3 (some .int) 0 := ⟨ztc2 166 rfl rfl, ztc2 164 (by decide +kernel) rfl, ztc2 165 (by decide +kernel) rfl, ztc1 3 (by decide +kernel) rfl, by decide +kernel⟩
theorem yk_L_isBuilt : zYv y_L_isBuilt c_L_isBuilt 2 (some .boolean) 1 := ⟨ztc2 178 rfl rfl, ztc2 176 (by decide +kernel) rfl, ztc2 177 (by decide +kernel) rfl, ztc1 3 (by decide +kernel) rfl, by decide +kernel⟩
theorem yk_L_roadSize : zYv y_L_roadSize c_L_roadSize 2 (some .int) 1 := ⟨ztc2 182 rfl rfl, ztc2 180 (by decide +kernel) rfl, ztc2 181 (by decide +kernel) rfl, ztc1 3 (by decide +kernel) rfl, by decide +kernel⟩
theorem yk_L_roadPlace : zYv y_L_roadPlace c_L_roadPlace 3 (some .int) 2 := ⟨ztc4 124 rfl rfl, ztc4 122 (by decide +kernel) rfl, ztc4 123 (by decide +kernel) rfl, ztc1 3 (by decide +kernel) rfl, by decide +kernel⟩
theorem yk_L_roadOffset : zYv y_L_roadOffset c_L_roadOffset 3 (some .int) 2 := ⟨ztc7 79 rfl rfl, ztc7 77 (by decide +kernel) rfl, ztc7 78 (by decide +kernel) rfl, ztc1 3 (by decide +kernel) rfl, by decide +kernel⟩
theorem yk_L_setRoadOffset : zYv y_L_setRoadOffset c_L_setRoadOffset 4 none 3 := ⟨ztc6 85 rfl rfl, ztc6 83 (by decide +kernel) rfl, ztc6 84 (by decide +kernel) rfl, ztc1 3 (by decide +kernel) rfl, by decide +kernel⟩
theorem yk_L_clearRoad : zYv y_L_clearRoad c_L_clearRoad 3 none 1 := ⟨ztc6 14 rfl rfl, ztc6 12 (by decide +kernel) rfl, ztc6 13 (by decide +kernel) rfl, ztc1 3 (by decide +kernel) rfl, by decide +kernel⟩
theorem yk_L_setRoad : zYv y_L_setRoad c_L_setRoad 5 none 3 := ⟨ztc6 10 rfl rfl, ztc6 8 (by decide +kernel) rfl, ztc6 9 (by decide +kernel) rfl, ztc1 3 (by decide +kernel) rfl, by decide +kernel⟩
theorem yk_L_builtBits : zYv y_L_builtBits c_L_builtBits 3 (some .int) 0 := ⟨ztc2 174 rfl rfl, ztc2 172 (by decide +kernel) rfl, ztc2 173 (by decide +kernel) rfl, ztc1 3 (by decide +kernel) rfl, by decide +kernel⟩
theorem yk_L_roadHeading : zYv y_L_roadHeading c_L_roadHeading 3 (some .int) 2 := ⟨ztc4 120 rfl rfl, ztc4 118 (by decide +kernel) rfl, ztc4 119 (by decide +kernel) rfl, ztc1 3 (by decide +kernel) rfl, by decide +kernel⟩
theorem yk_L_headingTo : zYv y_L_headingTo c_L_headingTo 4 (some .int) 2 := ⟨ztc4 128 rfl rfl, ztc4 126 (by decide +kernel) rfl, ztc4 127 (by decide +kernel) rfl, ztc1 3 (by decide +kernel) rfl, by decide +kernel⟩
theorem yk_L_besideOf : zYv y_L_besideOf c_L_besideOf 3 (some .int) 2 := ⟨ztc2 203 rfl rfl, ztc2 201 (by decide +kernel) rfl, ztc2 202 (by decide +kernel) rfl, ztc1 3 (by decide +kernel) rfl, by decide +kernel⟩
theorem yk_L_isEdge : zYv y_L_isEdge c_L_isEdge 3 (some .boolean) 1 := ⟨ztc7 145 rfl rfl, ztc7 143 (by decide +kernel) rfl, ztc7 144 (by decide +kernel) rfl, ztc1 3 (by decide +kernel) rfl, by decide +kernel⟩
theorem yk_L_differ : zYv y_L_differ c_L_differ 4 (some .int) 2 := ⟨ztc3 230 rfl rfl, ztc3 228 (by decide +kernel) rfl, ztc3 229 (by decide +kernel) rfl, ztc1 3 (by decide +kernel) rfl, by decide +kernel⟩
theorem yk_L_isOpen : zYv y_L_isOpen c_L_isOpen 4 (some .boolean) 2 := ⟨ztc4 6 rfl rfl, ztc4 4 (by decide +kernel) rfl, ztc4 5 (by decide +kernel) rfl, ztc1 3 (by decide +kernel) rfl, by decide +kernel⟩
theorem yk_L_isSteep : zYv y_L_isSteep c_L_isSteep 4 (some .boolean) 3 := ⟨ztc4 11 rfl rfl, ztc4 9 (by decide +kernel) rfl, ztc4 10 (by decide +kernel) rfl, ztc1 3 (by decide +kernel) rfl, by decide +kernel⟩
theorem yk_L_canStep : zYv y_L_canStep c_L_canStep 3 (some .boolean) 2 := ⟨ztc4 2 rfl rfl, ztc4 0 (by decide +kernel) rfl, ztc4 1 (by decide +kernel) rfl, ztc1 3 (by decide +kernel) rfl, by decide +kernel⟩
theorem yk_L_stepBits : zYv y_L_stepBits c_L_stepBits 4 (some .int) 1 := ⟨ztc3 238 rfl rfl, ztc3 236 (by decide +kernel) rfl, ztc3 237 (by decide +kernel) rfl, ztc1 3 (by decide +kernel) rfl, by decide +kernel⟩
theorem yk_L_isFlat : zYv y_L_isFlat c_L_isFlat 4 (some .boolean) 1 := ⟨ztc3 225 rfl rfl, ztc3 223 (by decide +kernel) rfl, ztc3 224 (by decide +kernel) rfl, ztc1 3 (by decide +kernel) rfl, by decide +kernel⟩
theorem yk_L_stepCost : zYv y_L_stepCost c_L_stepCost 3 (some .int) 2 := ⟨ztc7 46 rfl rfl, ztc7 44 (by decide +kernel) rfl, ztc7 45 (by decide +kernel) rfl, ztc1 3 (by decide +kernel) rfl, by decide +kernel⟩
theorem yk_L_bendCost : zYv y_L_bendCost c_L_bendCost 2 (some .int) 1 := ⟨ztc4 110 rfl rfl, ztc4 108 (by decide +kernel) rfl, ztc4 109 (by decide +kernel) rfl, ztc1 3 (by decide +kernel) rfl, by decide +kernel⟩
abbrev c_X_init : ByteArray := prog_10_method_1_code
def y_X_init : MethodName := ⟨"GentleRoad$Text", "<init>", "(LGentleRoad$Tape;)V"⟩
abbrev c_X_told : ByteArray := prog_10_method_2_code
def y_X_told : MethodName := ⟨"GentleRoad$Text", "told", "()[I"⟩
abbrev c_X_read : ByteArray := prog_10_method_3_code
def y_X_read : MethodName := ⟨"GentleRoad$Text", "read", "()I"⟩
abbrev c_X_readSize : ByteArray := prog_10_method_4_code
def y_X_readSize : MethodName := ⟨"GentleRoad$Text", "readSize", "()Z"⟩
abbrev c_X_readRows : ByteArray := prog_10_method_5_code
def y_X_readRows : MethodName := ⟨"GentleRoad$Text", "readRows", "()Z"⟩
abbrev c_X_readClauses : ByteArray := prog_10_method_6_code
def y_X_readClauses : MethodName := ⟨"GentleRoad$Text", "readClauses", "()Z"⟩
abbrev c_X_readClause : ByteArray := prog_10_method_7_code
def y_X_readClause : MethodName := ⟨"GentleRoad$Text", "readClause", "()Z"⟩
abbrev c_X_readWet : ByteArray := prog_10_method_8_code
def y_X_readWet : MethodName := ⟨"GentleRoad$Text", "readWet", "()Z"⟩
abbrev c_X_readNumber : ByteArray := prog_10_method_9_code
def y_X_readNumber : MethodName := ⟨"GentleRoad$Text", "readNumber", "(III)Z"⟩
abbrev c_X_number : ByteArray := prog_10_method_10_code
def y_X_number : MethodName := ⟨"GentleRoad$Text", "number", "(II)I"⟩
abbrev c_X_readMark : ByteArray := prog_10_method_11_code
def y_X_readMark : MethodName := ⟨"GentleRoad$Text", "readMark", "()Z"⟩
abbrev c_X_readWord : ByteArray := prog_10_method_12_code
def y_X_readWord : MethodName := ⟨"GentleRoad$Text", "readWord", "(Ljava/lang/String;)Z"⟩
abbrev c_X_toNextThing : ByteArray := prog_10_method_13_code
def y_X_toNextThing : MethodName := ⟨"GentleRoad$Text", "toNextThing", "()V"⟩
abbrev c_X_wordOf : ByteArray := prog_10_method_14_code
def y_X_wordOf : MethodName := ⟨"GentleRoad$Text", "wordOf", "(I)Ljava/lang/String;"⟩
theorem yk_X_told : zYv y_X_told c_X_told 1 (some (.array .int)) 0 := ⟨ztc3 166 rfl rfl, ztc3 164 (by decide +kernel) rfl, ztc3 165 (by decide +kernel) rfl, ztc1 6 (by decide +kernel) rfl, by decide +kernel⟩
theorem yk_X_read : zYv y_X_read c_X_read 2 (some .int) 0 := ⟨ztc2 215 rfl rfl, ztc2 213 (by decide +kernel) rfl, ztc2 214 (by decide +kernel) rfl, ztc1 6 (by decide +kernel) rfl, by decide +kernel⟩
theorem yk_X_readSize : zYv y_X_readSize c_X_readSize 1 (some .boolean) 0 := ⟨ztc2 223 rfl rfl, ztc2 222 (by decide +kernel) rfl, ztp (q := (y_X_readSize, 6)) 2 (by decide +kernel), ztc1 6 (by decide +kernel) rfl, by decide +kernel⟩
theorem yk_X_readRows : zYv y_X_readRows c_X_readRows 5 (some .boolean) 0 := ⟨ztc3 56 rfl rfl, ztc3 55 (by decide +kernel) rfl, ztp (q := (y_X_readRows, 6)) 7 (by decide +kernel), ztc1 6 (by decide +kernel) rfl, by decide +kernel⟩
theorem yk_X_readClauses : zYv y_X_readClauses c_X_readClauses 2 (some .boolean) 0 := ⟨ztc3 65 rfl rfl, ztc3 64 (by decide +kernel) rfl, ztp (q := (y_X_readClauses, 6)) 9 (by decide +kernel), ztc1 6 (by decide +kernel) rfl, by decide +kernel⟩
theorem yk_X_readClause : zYv y_X_readClause c_X_readClause 2 (some .boolean) 0 := ⟨ztc3 69 rfl rfl, ztc3 68 (by decide +kernel) rfl, ztp (q := (y_X_readClause, 6)) 10 (by decide +kernel), ztc1 6 (by decide +kernel) rfl, by decide +kernel⟩
theorem yk_X_readWet : zYv y_X_readWet c_X_readWet 3 (some .boolean) 0 := ⟨ztc3 74 rfl rfl, ztc3 73 (by decide +kernel) rfl, ztp (q := (y_X_readWet, 6)) 11 (by decide +kernel), ztc1 6 (by decide +kernel) rfl, by decide +kernel⟩
theorem yk_X_readNumber : zYv y_X_readNumber c_X_readNumber 5 (some .boolean) 3 := ⟨ztc3 48 rfl rfl, ztc3 47 (by decide +kernel) rfl, ztp (q := (y_X_readNumber, 6)) 5 (by decide +kernel), ztc1 6 (by decide +kernel) rfl, by decide +kernel⟩
theorem yk_X_number : zYv y_X_number c_X_number 6 (some .int) 2 := ⟨ztc3 52 rfl rfl, ztc3 51 (by decide +kernel) rfl, ztp (q := (y_X_number, 6)) 6 (by decide +kernel), ztc1 6 (by decide +kernel) rfl, by decide +kernel⟩
theorem yk_X_readMark : zYv y_X_readMark c_X_readMark 1 (some .boolean) 0 := ⟨ztc3 60 rfl rfl, ztc3 59 (by decide +kernel) rfl, ztp (q := (y_X_readMark, 6)) 8 (by decide +kernel), ztc1 6 (by decide +kernel) rfl, by decide +kernel⟩
theorem yk_X_readWord : zYv y_X_readWord c_X_readWord 4 (some .boolean) 1 := ⟨ztc2 228 rfl rfl, ztc2 227 (by decide +kernel) rfl, ztp (q := (y_X_readWord, 6)) 3 (by decide +kernel), ztc1 6 (by decide +kernel) rfl, by decide +kernel⟩
theorem yk_X_toNextThing : zYv y_X_toNextThing c_X_toNextThing 1 none 0 := ⟨ztc2 232 rfl rfl, ztc2 231 (by decide +kernel) rfl, ztp (q := (y_X_toNextThing, 6)) 4 (by decide +kernel), ztc1 6 (by decide +kernel) rfl, by decide +kernel⟩
theorem yk_X_wordOf : zYs y_X_wordOf c_X_wordOf 1 (some (.object "java/lang/String")) 1 := ⟨ztc3 77 rfl rfl, ztc3 76 (by decide +kernel) rfl, ztc1 6 (by decide +kernel) rfl, by decide +kernel⟩
abbrev c_P_init : ByteArray := prog_5_method_1_code
def y_P_init : MethodName := ⟨"GentleRoad$Past", "<init>", "()V"⟩
abbrev c_P_size : ByteArray := prog_5_method_2_code
def y_P_size : MethodName := ⟨"GentleRoad$Past", "size", "()I"⟩
abbrev c_P_forget : ByteArray := prog_5_method_3_code
def y_P_forget : MethodName := ⟨"GentleRoad$Past", "forget", "()V"⟩
abbrev c_P_remember : ByteArray := prog_5_method_4_code
def y_P_remember : MethodName := ⟨"GentleRoad$Past", "remember", "(LGentleRoad$Land;)V"⟩
abbrev c_P_takeBack : ByteArray := prog_5_method_5_code
def y_P_takeBack : MethodName := ⟨"GentleRoad$Past", "takeBack", "(LGentleRoad$Land;)V"⟩
abbrev c_P_room : ByteArray := prog_5_method_6_code
def y_P_room : MethodName := ⟨"GentleRoad$Past", "room", "()I"⟩
theorem yk_P_size : zYv y_P_size c_P_size 1 (some .int) 0 := ⟨ztc2 186 rfl rfl, ztc2 184 (by decide +kernel) rfl, ztc2 185 (by decide +kernel) rfl, ztc1 7 (by decide +kernel) rfl, by decide +kernel⟩
theorem yk_P_forget : zYv y_P_forget c_P_forget 1 none 0 := ⟨ztc2 156 rfl rfl, ztc2 154 (by decide +kernel) rfl, ztc2 155 (by decide +kernel) rfl, ztc1 7 (by decide +kernel) rfl, by decide +kernel⟩
theorem yk_P_remember : zYv y_P_remember c_P_remember 2 none 1 := ⟨ztc4 44 rfl rfl, ztc4 42 (by decide +kernel) rfl, ztc4 43 (by decide +kernel) rfl, ztc1 7 (by decide +kernel) rfl, by decide +kernel⟩
theorem yk_P_takeBack : zYv y_P_takeBack c_P_takeBack 2 none 1 := ⟨ztc6 97 rfl rfl, ztc6 95 (by decide +kernel) rfl, ztc6 96 (by decide +kernel) rfl, ztc1 7 (by decide +kernel) rfl, by decide +kernel⟩
theorem yk_P_room : zYv y_P_room c_P_room 1 (some .int) 0 := ⟨ztc4 48 rfl rfl, ztc4 47 (by decide +kernel) rfl, ztp (q := (y_P_room, 3)) 17 (by decide +kernel), ztc1 7 (by decide +kernel) rfl, by decide +kernel⟩
abbrev c_S_init : ByteArray := prog_7_method_1_code
def y_S_init : MethodName := ⟨"GentleRoad$Streams", "<init>", "(LGentleRoad$Land;)V"⟩
abbrev c_S_runOf : ByteArray := prog_7_method_2_code
def y_S_runOf : MethodName := ⟨"GentleRoad$Streams", "runOf", "(I)I"⟩
abbrev c_S_sinks : ByteArray := prog_7_method_3_code
def y_S_sinks : MethodName := ⟨"GentleRoad$Streams", "sinks", "()I"⟩
abbrev c_S_gather : ByteArray := prog_7_method_4_code
def y_S_gather : MethodName := ⟨"GentleRoad$Streams", "gather", "()V"⟩
abbrev c_S_catchOf : ByteArray := prog_7_method_5_code
def y_S_catchOf : MethodName := ⟨"GentleRoad$Streams", "catchOf", "(I)I"⟩
abbrev c_S_spillOf : ByteArray := prog_7_method_6_code
def y_S_spillOf : MethodName := ⟨"GentleRoad$Streams", "spillOf", "(I)I"⟩
abbrev c_S_lowestMet : ByteArray := prog_7_method_7_code
def y_S_lowestMet : MethodName := ⟨"GentleRoad$Streams", "lowestMet", "()I"⟩
abbrev c_S_pass : ByteArray := prog_7_method_8_code
def y_S_pass : MethodName := ⟨"GentleRoad$Streams", "pass", "(I)V"⟩
theorem yk_S_runOf : zYv y_S_runOf c_S_runOf 6 (some .int) 1 := ⟨ztc2 195 rfl rfl, ztc2 193 (by decide +kernel) rfl, ztc2 194 (by decide +kernel) rfl, ztc1 8 (by decide +kernel) rfl, by decide +kernel⟩
theorem yk_S_sinks : zYv y_S_sinks c_S_sinks 3 (some .int) 0 := ⟨ztc2 190 rfl rfl, ztc2 188 (by decide +kernel) rfl, ztc2 189 (by decide +kernel) rfl, ztc1 8 (by decide +kernel) rfl, by decide +kernel⟩
theorem yk_S_gather : zYv y_S_gather c_S_gather 5 none 0 := ⟨ztc4 136 rfl rfl, ztc4 134 (by decide +kernel) rfl, ztc4 135 (by decide +kernel) rfl, ztc1 8 (by decide +kernel) rfl, by decide +kernel⟩
theorem yk_S_catchOf : zYv y_S_catchOf c_S_catchOf 2 (some .int) 1 := ⟨ztc4 155 rfl rfl, ztc4 153 (by decide +kernel) rfl, ztc4 154 (by decide +kernel) rfl, ztc1 8 (by decide +kernel) rfl, by decide +kernel⟩
theorem yk_S_spillOf : zYv y_S_spillOf c_S_spillOf 5 (some .int) 1 := ⟨ztc7 135 rfl rfl, ztc7 133 (by decide +kernel) rfl, ztc7 134 (by decide +kernel) rfl, ztc1 8 (by decide +kernel) rfl, by decide +kernel⟩
theorem yk_S_lowestMet : zYv y_S_lowestMet c_S_lowestMet 3 (some .int) 0 := ⟨ztc7 140 rfl rfl, ztc7 139 (by decide +kernel) rfl, ztp (q := (y_S_lowestMet, 4)) 55 (by decide +kernel), ztc1 8 (by decide +kernel) rfl, by decide +kernel⟩
theorem yk_S_pass : zYv y_S_pass c_S_pass 4 none 1 := ⟨ztc7 149 rfl rfl, ztc7 148 (by decide +kernel) rfl, ztp (q := (y_S_pass, 4)) 56 (by decide +kernel), ztc1 8 (by decide +kernel) rfl, by decide +kernel⟩
abbrev c_H_init : ByteArray := prog_3_method_1_code
def y_H_init : MethodName := ⟨"GentleRoad$Heap", "<init>", "(I)V"⟩
abbrev c_H_clear : ByteArray := prog_3_method_2_code
def y_H_clear : MethodName := ⟨"GentleRoad$Heap", "clear", "(I)V"⟩
abbrev c_H_isEmpty : ByteArray := prog_3_method_3_code
def y_H_isEmpty : MethodName := ⟨"GentleRoad$Heap", "isEmpty", "()Z"⟩
abbrev c_H_key : ByteArray := prog_3_method_4_code
def y_H_key : MethodName := ⟨"GentleRoad$Heap", "key", "(I)I"⟩
abbrev c_H_offer : ByteArray := prog_3_method_5_code
def y_H_offer : MethodName := ⟨"GentleRoad$Heap", "offer", "(II)V"⟩
abbrev c_H_poll : ByteArray := prog_3_method_6_code
def y_H_poll : MethodName := ⟨"GentleRoad$Heap", "poll", "()I"⟩
abbrev c_H_rise : ByteArray := prog_3_method_7_code
def y_H_rise : MethodName := ⟨"GentleRoad$Heap", "rise", "(II)V"⟩
abbrev c_H_sink : ByteArray := prog_3_method_8_code
def y_H_sink : MethodName := ⟨"GentleRoad$Heap", "sink", "(I)V"⟩
theorem yk_H_clear : zYv y_H_clear c_H_clear 2 none 1 := ⟨ztc4 163 rfl rfl, ztc4 161 (by decide +kernel) rfl, ztc4 162 (by decide +kernel) rfl, ztc1 10 (by decide +kernel) rfl, by decide +kernel⟩
theorem yk_H_isEmpty : zYv y_H_isEmpty c_H_isEmpty 1 (some .boolean) 0 := ⟨ztc5 193 rfl rfl, ztc5 191 (by decide +kernel) rfl, ztc5 192 (by decide +kernel) rfl, ztc1 10 (by decide +kernel) rfl, by decide +kernel⟩
theorem yk_H_key : zYv y_H_key c_H_key 2 (some .int) 1 := ⟨ztc5 205 rfl rfl, ztc5 203 (by decide +kernel) rfl, ztc5 204 (by decide +kernel) rfl, ztc1 10 (by decide +kernel) rfl, by decide +kernel⟩
theorem yk_H_offer : zYv y_H_offer c_H_offer 3 none 2 := ⟨ztc5 185 rfl rfl, ztc5 183 (by decide +kernel) rfl, ztc5 184 (by decide +kernel) rfl, ztc1 10 (by decide +kernel) rfl, by decide +kernel⟩
theorem yk_H_poll : zYv y_H_poll c_H_poll 2 (some .int) 0 := ⟨ztc5 197 rfl rfl, ztc5 195 (by decide +kernel) rfl, ztc5 196 (by decide +kernel) rfl, ztc1 10 (by decide +kernel) rfl, by decide +kernel⟩
theorem yk_H_rise : zYv y_H_rise c_H_rise 5 none 2 := ⟨ztc5 189 rfl rfl, ztc5 188 (by decide +kernel) rfl, ztp (q := (y_H_rise, 4)) 25 (by decide +kernel), ztc1 10 (by decide +kernel) rfl, by decide +kernel⟩
theorem yk_H_sink : zYv y_H_sink c_H_sink 4 none 1 := ⟨ztc5 201 rfl rfl, ztc5 200 (by decide +kernel) rfl, ztp (q := (y_H_sink, 4)) 26 (by decide +kernel), ztc1 10 (by decide +kernel) rfl, by decide +kernel⟩
abbrev c_W_init : ByteArray := prog_11_method_1_code
def y_W_init : MethodName := ⟨"GentleRoad$Ways", "<init>", "(LGentleRoad$Land;LGentleRoad$Streams;)V"⟩
abbrev c_W_path : ByteArray := prog_11_method_2_code
def y_W_path : MethodName := ⟨"GentleRoad$Ways", "path", "()[I"⟩
abbrev c_W_pathSize : ByteArray := prog_11_method_3_code
def y_W_pathSize : MethodName := ⟨"GentleRoad$Ways", "pathSize", "()I"⟩
abbrev c_W_measure : ByteArray := prog_11_method_4_code
def y_W_measure : MethodName := ⟨"GentleRoad$Ways", "measure", "(III)I"⟩
abbrev c_W_find : ByteArray := prog_11_method_5_code
def y_W_find : MethodName := ⟨"GentleRoad$Ways", "find", "(III)I"⟩
abbrev c_W_measureBored : ByteArray := prog_11_method_6_code
def y_W_measureBored : MethodName := ⟨"GentleRoad$Ways", "measureBored", "(III)I"⟩
abbrev c_W_searchAll : ByteArray := prog_11_method_7_code
def y_W_searchAll : MethodName := ⟨"GentleRoad$Ways", "searchAll", "(I)V"⟩
abbrev c_W_costBetween : ByteArray := prog_11_method_8_code
def y_W_costBetween : MethodName := ⟨"GentleRoad$Ways", "costBetween", "(II)I"⟩
abbrev c_W_prepare : ByteArray := prog_11_method_9_code
def y_W_prepare : MethodName := ⟨"GentleRoad$Ways", "prepare", "(IIZ)V"⟩
abbrev c_W_weigh : ByteArray := prog_11_method_10_code
def y_W_weigh : MethodName := ⟨"GentleRoad$Ways", "weigh", "(IIIIZ)V"⟩
abbrev c_W_amount : ByteArray := prog_11_method_11_code
def y_W_amount : MethodName := ⟨"GentleRoad$Ways", "amount", "(III)I"⟩
abbrev c_W_markUsed : ByteArray := prog_11_method_12_code
def y_W_markUsed : MethodName := ⟨"GentleRoad$Ways", "markUsed", "()V"⟩
abbrev c_W_takeWeight : ByteArray := prog_11_method_13_code
def y_W_takeWeight : MethodName := ⟨"GentleRoad$Ways", "takeWeight", "(II)I"⟩
abbrev c_W_giveWeight : ByteArray := prog_11_method_14_code
def y_W_giveWeight : MethodName := ⟨"GentleRoad$Ways", "giveWeight", "(III)V"⟩
abbrev c_W_canBend : ByteArray := prog_11_method_15_code
def y_W_canBend : MethodName := ⟨"GentleRoad$Ways", "canBend", "(III)Z"⟩
abbrev c_W_search : ByteArray := prog_11_method_16_code
def y_W_search : MethodName := ⟨"GentleRoad$Ways", "search", "(II)V"⟩
abbrev c_W_offerStepsTo : ByteArray := prog_11_method_17_code
def y_W_offerStepsTo : MethodName := ⟨"GentleRoad$Ways", "offerStepsTo", "(IIII)V"⟩
abbrev c_W_leastKey : ByteArray := prog_11_method_18_code
def y_W_leastKey : MethodName := ⟨"GentleRoad$Ways", "leastKey", "(I)I"⟩
abbrev c_W_left : ByteArray := prog_11_method_19_code
def y_W_left : MethodName := ⟨"GentleRoad$Ways", "left", "(I)I"⟩
abbrev c_W_walk : ByteArray := prog_11_method_20_code
def y_W_walk : MethodName := ⟨"GentleRoad$Ways", "walk", "(II)V"⟩
abbrev c_W_firstHeading : ByteArray := prog_11_method_21_code
def y_W_firstHeading : MethodName := ⟨"GentleRoad$Ways", "firstHeading", "(III)I"⟩
abbrev c_W_spread : ByteArray := prog_11_method_22_code
def y_W_spread : MethodName := ⟨"GentleRoad$Ways", "spread", "(II[I)Z"⟩
abbrev c_W_line : ByteArray := prog_11_method_23_code
def y_W_line : MethodName := ⟨"GentleRoad$Ways", "line", "(III)I"⟩
theorem yk_W_path : zYv y_W_path c_W_path 1 (some (.array .int)) 0 := ⟨ztc6 6 rfl rfl, ztc6 4 (by decide +kernel) rfl, ztc6 5 (by decide +kernel) rfl, ztc1 9 (by decide +kernel) rfl, by decide +kernel⟩
theorem yk_W_pathSize : zYv y_W_pathSize c_W_pathSize 1 (some .int) 0 := ⟨ztc5 227 rfl rfl, ztc5 225 (by decide +kernel) rfl, ztc5 226 (by decide +kernel) rfl, ztc1 9 (by decide +kernel) rfl, by decide +kernel⟩
theorem yk_W_measure : zYv y_W_measure c_W_measure 4 (some .int) 3 := ⟨ztc6 109 rfl rfl, ztc6 107 (by decide +kernel) rfl, ztc6 108 (by decide +kernel) rfl, ztc1 9 (by decide +kernel) rfl, by decide +kernel⟩
theorem yk_W_find : zYv y_W_find c_W_find 4 (some .int) 3 := ⟨ztc4 101 rfl rfl, ztc4 99 (by decide +kernel) rfl, ztc4 100 (by decide +kernel) rfl, ztc1 9 (by decide +kernel) rfl, by decide +kernel⟩
theorem yk_W_measureBored : zYv y_W_measureBored c_W_measureBored 4 (some .int) 3 := ⟨ztc6 191 rfl rfl, ztc6 189 (by decide +kernel) rfl, ztc6 190 (by decide +kernel) rfl, ztc1 9 (by decide +kernel) rfl, by decide +kernel⟩
theorem yk_W_searchAll : zYv y_W_searchAll c_W_searchAll 2 none 1 := ⟨ztc6 210 rfl rfl, ztc6 208 (by decide +kernel) rfl, ztc6 209 (by decide +kernel) rfl, ztc1 9 (by decide +kernel) rfl, by decide +kernel⟩
theorem yk_W_costBetween : zYv y_W_costBetween c_W_costBetween 3 (some .int) 2 := ⟨ztc6 214 rfl rfl, ztc6 212 (by decide +kernel) rfl, ztc6 213 (by decide +kernel) rfl, ztc1 9 (by decide +kernel) rfl, by decide +kernel⟩
theorem yk_W_prepare : zYv y_W_prepare c_W_prepare 7 none 3 := ⟨ztc4 106 rfl rfl, ztc4 104 (by decide +kernel) rfl, ztc4 105 (by decide +kernel) rfl, ztc1 9 (by decide +kernel) rfl, by decide +kernel⟩
theorem yk_W_weigh : zYv y_W_weigh c_W_weigh 8 none 5 := ⟨ztc4 142 rfl rfl, ztc4 141 (by decide +kernel) rfl, ztp (q := (y_W_weigh, 14)) 22 (by decide +kernel), ztc1 9 (by decide +kernel) rfl, by decide +kernel⟩
theorem yk_W_amount : zYv y_W_amount c_W_amount 7 (some .int) 3 := ⟨ztc4 148 rfl rfl, ztc4 147 (by decide +kernel) rfl, ztp (q := (y_W_amount, 14)) 23 (by decide +kernel), ztc1 9 (by decide +kernel) rfl, by decide +kernel⟩
theorem yk_W_markUsed : zYv y_W_markUsed c_W_markUsed 4 none 0 := ⟨ztc4 114 rfl rfl, ztc4 113 (by decide +kernel) rfl, ztp (q := (y_W_markUsed, 14)) 21 (by decide +kernel), ztc1 9 (by decide +kernel) rfl, by decide +kernel⟩
theorem yk_W_takeWeight : zYv y_W_takeWeight c_W_takeWeight 5 (some .int) 2 := ⟨ztc7 196 rfl rfl, ztc7 194 (by decide +kernel) rfl, ztc7 195 (by decide +kernel) rfl, ztc1 9 (by decide +kernel) rfl, by decide +kernel⟩
theorem yk_W_giveWeight : zYv y_W_giveWeight c_W_giveWeight 4 none 3 := ⟨ztc7 202 rfl rfl, ztc7 200 (by decide +kernel) rfl, ztc7 201 (by decide +kernel) rfl, ztc1 9 (by decide +kernel) rfl, by decide +kernel⟩
theorem yk_W_canBend : zYv y_W_canBend c_W_canBend 4 (some .boolean) 3 := ⟨ztc5 178 rfl rfl, ztc5 176 (by decide +kernel) rfl, ztc5 177 (by decide +kernel) rfl, ztc1 9 (by decide +kernel) rfl, by decide +kernel⟩
theorem yk_W_search : zYv y_W_search c_W_search 6 none 2 := ⟨ztc4 159 rfl rfl, ztc4 157 (by decide +kernel) rfl, ztc4 158 (by decide +kernel) rfl, ztc1 9 (by decide +kernel) rfl, by decide +kernel⟩
theorem yk_W_offerStepsTo : zYv y_W_offerStepsTo c_W_offerStepsTo 9 none 4 := ⟨ztc5 174 rfl rfl, ztc5 173 (by decide +kernel) rfl, ztp (q := (y_W_offerStepsTo, 14)) 24 (by decide +kernel), ztc1 9 (by decide +kernel) rfl, by decide +kernel⟩
theorem yk_W_leastKey : zYv y_W_leastKey c_W_leastKey 6 (some .int) 1 := ⟨ztc5 213 rfl rfl, ztc5 212 (by decide +kernel) rfl, ztp (q := (y_W_leastKey, 14)) 28 (by decide +kernel), ztc1 9 (by decide +kernel) rfl, by decide +kernel⟩
theorem yk_W_left : zYv y_W_left c_W_left 3 (some .int) 1 := ⟨ztc5 223 rfl rfl, ztc5 221 (by decide +kernel) rfl, ztc5 222 (by decide +kernel) rfl, ztc1 9 (by decide +kernel) rfl, by decide +kernel⟩
theorem yk_W_walk : zYv y_W_walk c_W_walk 8 none 2 := ⟨ztc5 209 rfl rfl, ztc5 208 (by decide +kernel) rfl, ztp (q := (y_W_walk, 14)) 27 (by decide +kernel), ztc1 9 (by decide +kernel) rfl, by decide +kernel⟩
theorem yk_W_firstHeading : zYv y_W_firstHeading c_W_firstHeading 10 (some .int) 3 := ⟨ztc5 219 rfl rfl, ztc5 218 (by decide +kernel) rfl, ztp (q := (y_W_firstHeading, 14)) 29 (by decide +kernel), ztc1 9 (by decide +kernel) rfl, by decide +kernel⟩
theorem yk_W_spread : zYv y_W_spread c_W_spread 8 (some .boolean) 3 := ⟨ztc6 133 rfl rfl, ztc6 131 (by decide +kernel) rfl, ztc6 132 (by decide +kernel) rfl, ztc1 9 (by decide +kernel) rfl, by decide +kernel⟩
theorem yk_W_line : zYv y_W_line c_W_line 7 (some .int) 3 := ⟨ztc6 137 rfl rfl, ztc6 136 (by decide +kernel) rfl, ztp (q := (y_W_line, 14)) 35 (by decide +kernel), ztc1 9 (by decide +kernel) rfl, by decide +kernel⟩
abbrev c_N_init : ByteArray := prog_6_method_1_code
def y_N_init : MethodName := ⟨"GentleRoad$Planner", "<init>", "(LGentleRoad$Land;LGentleRoad$Ways;)V"⟩
abbrev c_N_reached : ByteArray := prog_6_method_2_code
def y_N_reached : MethodName := ⟨"GentleRoad$Planner", "reached", "(I)I"⟩
abbrev c_N_isWay : ByteArray := prog_6_method_3_code
def y_N_isWay : MethodName := ⟨"GentleRoad$Planner", "isWay", "(III)Z"⟩
abbrev c_N_leastGrade : ByteArray := prog_6_method_4_code
def y_N_leastGrade : MethodName := ⟨"GentleRoad$Planner", "leastGrade", "(II)I"⟩
abbrev c_N_firstGate : ByteArray := prog_6_method_5_code
def y_N_firstGate : MethodName := ⟨"GentleRoad$Planner", "firstGate", "(II)I"⟩
abbrev c_N_markTouched : ByteArray := prog_6_method_6_code
def y_N_markTouched : MethodName := ⟨"GentleRoad$Planner", "markTouched", "()V"⟩
abbrev c_N_isWayWithout : ByteArray := prog_6_method_7_code
def y_N_isWayWithout : MethodName := ⟨"GentleRoad$Planner", "isWayWithout", "(III)Z"⟩
abbrev c_N_clearSums : ByteArray := prog_6_method_8_code
def y_N_clearSums : MethodName := ⟨"GentleRoad$Planner", "clearSums", "()V"⟩
abbrev c_N_addCosts : ByteArray := prog_6_method_9_code
def y_N_addCosts : MethodName := ⟨"GentleRoad$Planner", "addCosts", "(I)V"⟩
abbrev c_N_leastSumPlace : ByteArray := prog_6_method_10_code
def y_N_leastSumPlace : MethodName := ⟨"GentleRoad$Planner", "leastSumPlace", "()I"⟩
abbrev c_N_sumAt : ByteArray := prog_6_method_11_code
def y_N_sumAt : MethodName := ⟨"GentleRoad$Planner", "sumAt", "(I)I"⟩
abbrev c_N_takeRound : ByteArray := prog_6_method_12_code
def y_N_takeRound : MethodName := ⟨"GentleRoad$Planner", "takeRound", "(LGentleRoad$Tape;I)Z"⟩
abbrev c_N_leastRound : ByteArray := prog_6_method_13_code
def y_N_leastRound : MethodName := ⟨"GentleRoad$Planner", "leastRound", "()I"⟩
abbrev c_N_findLegs : ByteArray := prog_6_method_14_code
def y_N_findLegs : MethodName := ⟨"GentleRoad$Planner", "findLegs", "()V"⟩
abbrev c_N_extend : ByteArray := prog_6_method_15_code
def y_N_extend : MethodName := ⟨"GentleRoad$Planner", "extend", "(II)V"⟩
abbrev c_N_joiningIndex : ByteArray := prog_6_method_16_code
def y_N_joiningIndex : MethodName := ⟨"GentleRoad$Planner", "joiningIndex", "(II)I"⟩
abbrev c_N_dearestStep : ByteArray := prog_6_method_17_code
def y_N_dearestStep : MethodName := ⟨"GentleRoad$Planner", "dearestStep", "(II)I"⟩
abbrev c_N_dearestCost : ByteArray := prog_6_method_18_code
def y_N_dearestCost : MethodName := ⟨"GentleRoad$Planner", "dearestCost", "()I"⟩
abbrev c_N_costWithout : ByteArray := prog_6_method_19_code
def y_N_costWithout : MethodName := ⟨"GentleRoad$Planner", "costWithout", "(III)I"⟩
theorem yk_N_reached : zYv y_N_reached c_N_reached 4 (some .int) 1 := ⟨ztc6 127 rfl rfl, ztc6 125 (by decide +kernel) rfl, ztc6 126 (by decide +kernel) rfl, ztc1 11 (by decide +kernel) rfl, by decide +kernel⟩
theorem yk_N_isWay : zYv y_N_isWay c_N_isWay 4 (some .boolean) 3 := ⟨ztc6 153 rfl rfl, ztc6 152 (by decide +kernel) rfl, ztp (q := (y_N_isWay, 10)) 36 (by decide +kernel), ztc1 11 (by decide +kernel) rfl, by decide +kernel⟩
theorem yk_N_leastGrade : zYv y_N_leastGrade c_N_leastGrade 6 (some .int) 2 := ⟨ztc6 149 rfl rfl, ztc6 147 (by decide +kernel) rfl, ztc6 148 (by decide +kernel) rfl, ztc1 11 (by decide +kernel) rfl, by decide +kernel⟩
theorem yk_N_firstGate : zYv y_N_firstGate c_N_firstGate 4 (some .int) 2 := ⟨ztc6 164 rfl rfl, ztc6 162 (by decide +kernel) rfl, ztc6 163 (by decide +kernel) rfl, ztc1 11 (by decide +kernel) rfl, by decide +kernel⟩
theorem yk_N_markTouched : zYv y_N_markTouched c_N_markTouched 4 none 0 := ⟨ztc6 169 rfl rfl, ztc6 168 (by decide +kernel) rfl, ztp (q := (y_N_markTouched, 10)) 37 (by decide +kernel), ztc1 11 (by decide +kernel) rfl, by decide +kernel⟩
theorem yk_N_isWayWithout : zYv y_N_isWayWithout c_N_isWayWithout 5 (some .boolean) 3 := ⟨ztc6 178 rfl rfl, ztc6 177 (by decide +kernel) rfl, ztp (q := (y_N_isWayWithout, 10)) 38 (by decide +kernel), ztc1 11 (by decide +kernel) rfl, by decide +kernel⟩
theorem yk_N_clearSums : zYv y_N_clearSums c_N_clearSums 1 none 0 := ⟨ztc6 202 rfl rfl, ztc6 200 (by decide +kernel) rfl, ztc6 201 (by decide +kernel) rfl, ztc1 11 (by decide +kernel) rfl, by decide +kernel⟩
theorem yk_N_addCosts : zYv y_N_addCosts c_N_addCosts 4 none 1 := ⟨ztc6 206 rfl rfl, ztc6 204 (by decide +kernel) rfl, ztc6 205 (by decide +kernel) rfl, ztc1 11 (by decide +kernel) rfl, by decide +kernel⟩
theorem yk_N_leastSumPlace : zYv y_N_leastSumPlace c_N_leastSumPlace 3 (some .int) 0 := ⟨ztc6 219 rfl rfl, ztc6 217 (by decide +kernel) rfl, ztc6 218 (by decide +kernel) rfl, ztc1 11 (by decide +kernel) rfl, by decide +kernel⟩
theorem yk_N_sumAt : zYv y_N_sumAt c_N_sumAt 2 (some .int) 1 := ⟨ztc6 223 rfl rfl, ztc6 221 (by decide +kernel) rfl, ztc6 222 (by decide +kernel) rfl, ztc1 11 (by decide +kernel) rfl, by decide +kernel⟩
theorem yk_N_takeRound : zYv y_N_takeRound c_N_takeRound 5 (some .boolean) 2 := ⟨ztc6 234 rfl rfl, ztc6 232 (by decide +kernel) rfl, ztc6 233 (by decide +kernel) rfl, ztc1 11 (by decide +kernel) rfl, by decide +kernel⟩
theorem yk_N_leastRound : zYv y_N_leastRound c_N_leastRound 4 (some .int) 0 := ⟨ztc7 0 rfl rfl, ztc6 238 (by decide +kernel) rfl, ztc6 239 (by decide +kernel) rfl, ztc1 11 (by decide +kernel) rfl, by decide +kernel⟩
theorem yk_N_findLegs : zYv y_N_findLegs c_N_findLegs 4 none 0 := ⟨ztc7 4 rfl rfl, ztc7 3 (by decide +kernel) rfl, ztp (q := (y_N_findLegs, 10)) 39 (by decide +kernel), ztc1 11 (by decide +kernel) rfl, by decide +kernel⟩
theorem yk_N_extend : zYv y_N_extend c_N_extend 8 none 2 := ⟨ztc7 8 rfl rfl, ztc7 7 (by decide +kernel) rfl, ztp (q := (y_N_extend, 10)) 40 (by decide +kernel), ztc1 11 (by decide +kernel) rfl, by decide +kernel⟩
theorem yk_N_joiningIndex : zYv y_N_joiningIndex c_N_joiningIndex 7 (some .int) 2 := ⟨ztc7 174 rfl rfl, ztc7 172 (by decide +kernel) rfl, ztc7 173 (by decide +kernel) rfl, ztc1 11 (by decide +kernel) rfl, by decide +kernel⟩
theorem yk_N_dearestStep : zYv y_N_dearestStep c_N_dearestStep 7 (some .int) 2 := ⟨ztc7 188 rfl rfl, ztc7 186 (by decide +kernel) rfl, ztc7 187 (by decide +kernel) rfl, ztc1 11 (by decide +kernel) rfl, by decide +kernel⟩
theorem yk_N_dearestCost : zYv y_N_dearestCost c_N_dearestCost 1 (some .int) 0 := ⟨ztc7 207 rfl rfl, ztc7 205 (by decide +kernel) rfl, ztc7 206 (by decide +kernel) rfl, ztc1 11 (by decide +kernel) rfl, by decide +kernel⟩
theorem yk_N_costWithout : zYv y_N_costWithout c_N_costWithout 9 (some .int) 3 := ⟨ztc7 192 rfl rfl, ztc7 191 (by decide +kernel) rfl, ztp (q := (y_N_costWithout, 10)) 57 (by decide +kernel), ztc1 11 (by decide +kernel) rfl, by decide +kernel⟩
abbrev c_G_init : ByteArray := prog_2_method_1_code
def y_G_init : MethodName := ⟨"GentleRoad$Grader", "<init>", "(LGentleRoad$Land;)V"⟩
abbrev c_G_leastRule : ByteArray := prog_2_method_2_code
def y_G_leastRule : MethodName := ⟨"GentleRoad$Grader", "leastRule", "(I)I"⟩
abbrev c_G_leastEarth : ByteArray := prog_2_method_3_code
def y_G_leastEarth : MethodName := ⟨"GentleRoad$Grader", "leastEarth", "(II)I"⟩
abbrev c_G_fillPlace : ByteArray := prog_2_method_4_code
def y_G_fillPlace : MethodName := ⟨"GentleRoad$Grader", "fillPlace", "(III)V"⟩
abbrev c_G_look : ByteArray := prog_2_method_5_code
def y_G_look : MethodName := ⟨"GentleRoad$Grader", "look", "(III)V"⟩
abbrev c_G_bestNext : ByteArray := prog_2_method_6_code
def y_G_bestNext : MethodName := ⟨"GentleRoad$Grader", "bestNext", "(III)I"⟩
abbrev c_G_bound : ByteArray := prog_2_method_7_code
def y_G_bound : MethodName := ⟨"GentleRoad$Grader", "bound", "(II)I"⟩
abbrev c_G_cell : ByteArray := prog_2_method_8_code
def y_G_cell : MethodName := ⟨"GentleRoad$Grader", "cell", "(III)I"⟩
abbrev c_G_choiceShift : ByteArray := prog_2_method_9_code
def y_G_choiceShift : MethodName := ⟨"GentleRoad$Grader", "choiceShift", "(I)I"⟩
abbrev c_G_earthOf : ByteArray := prog_2_method_10_code
def y_G_earthOf : MethodName := ⟨"GentleRoad$Grader", "earthOf", "(I)I"⟩
abbrev c_G_settle : ByteArray := prog_2_method_11_code
def y_G_settle : MethodName := ⟨"GentleRoad$Grader", "settle", "(I)V"⟩
theorem yk_G_leastRule : zYv y_G_leastRule c_G_leastRule 5 (some .int) 1 := ⟨ztc7 95 rfl rfl, ztc7 93 (by decide +kernel) rfl, ztc7 94 (by decide +kernel) rfl, ztc1 12 (by decide +kernel) rfl, by decide +kernel⟩
theorem yk_G_leastEarth : zYv y_G_leastEarth c_G_leastEarth 6 (some .int) 2 := ⟨ztc6 41 rfl rfl, ztc6 39 (by decide +kernel) rfl, ztc6 40 (by decide +kernel) rfl, ztc1 12 (by decide +kernel) rfl, by decide +kernel⟩
theorem yk_G_fillPlace : zYv y_G_fillPlace c_G_fillPlace 11 none 3 := ⟨ztc6 47 rfl rfl, ztc6 46 (by decide +kernel) rfl, ztp (q := (y_G_fillPlace, 8)) 31 (by decide +kernel), ztc1 12 (by decide +kernel) rfl, by decide +kernel⟩
theorem yk_G_look : zYv y_G_look c_G_look 4 none 3 := ⟨ztc6 56 rfl rfl, ztc6 55 (by decide +kernel) rfl, ztp (q := (y_G_look, 8)) 33 (by decide +kernel), ztc1 12 (by decide +kernel) rfl, by decide +kernel⟩
theorem yk_G_bestNext : zYv y_G_bestNext c_G_bestNext 10 (some .int) 3 := ⟨ztc6 64 rfl rfl, ztc6 63 (by decide +kernel) rfl, ztp (q := (y_G_bestNext, 8)) 34 (by decide +kernel), ztc1 12 (by decide +kernel) rfl, by decide +kernel⟩
theorem yk_G_bound : zYv y_G_bound c_G_bound 5 (some .int) 2 := ⟨ztc6 51 rfl rfl, ztc6 50 (by decide +kernel) rfl, ztp (q := (y_G_bound, 8)) 32 (by decide +kernel), ztc1 12 (by decide +kernel) rfl, by decide +kernel⟩
theorem yk_G_cell : zYs y_G_cell c_G_cell 3 (some .int) 3 := ⟨ztc6 69 rfl rfl, ztc6 68 (by decide +kernel) rfl, ztc1 12 (by decide +kernel) rfl, by decide +kernel⟩
theorem yk_G_choiceShift : zYs y_G_choiceShift c_G_choiceShift 1 (some .int) 1 := ⟨ztc6 76 rfl rfl, ztc6 75 (by decide +kernel) rfl, ztc1 12 (by decide +kernel) rfl, by decide +kernel⟩
theorem yk_G_earthOf : zYv y_G_earthOf c_G_earthOf 2 (some .int) 1 := ⟨ztc6 73 rfl rfl, ztc6 71 (by decide +kernel) rfl, ztc6 72 (by decide +kernel) rfl, ztc1 12 (by decide +kernel) rfl, by decide +kernel⟩
theorem yk_G_settle : zYv y_G_settle c_G_settle 5 none 1 := ⟨ztc6 81 rfl rfl, ztc6 79 (by decide +kernel) rfl, ztc6 80 (by decide +kernel) rfl, ztc1 12 (by decide +kernel) rfl, by decide +kernel⟩
abbrev c_U_init : ByteArray := prog_8_method_1_code
def y_U_init : MethodName := ⟨"GentleRoad$Survey", "<init>", "(LGentleRoad$Land;LGentleRoad$Grader;LGentleRoad$Streams;)V"⟩
abbrev c_U_answer : ByteArray := prog_8_method_2_code
def y_U_answer : MethodName := ⟨"GentleRoad$Survey", "answer", "(II)I"⟩
abbrev c_U_steps : ByteArray := prog_8_method_3_code
def y_U_steps : MethodName := ⟨"GentleRoad$Survey", "steps", "(I)I"⟩
abbrev c_U_longTogether : ByteArray := prog_8_method_4_code
def y_U_longTogether : MethodName := ⟨"GentleRoad$Survey", "longTogether", "(I)I"⟩
abbrev c_U_climbed : ByteArray := prog_8_method_5_code
def y_U_climbed : MethodName := ⟨"GentleRoad$Survey", "climbed", "(II)I"⟩
abbrev c_U_bendAt : ByteArray := prog_8_method_6_code
def y_U_bendAt : MethodName := ⟨"GentleRoad$Survey", "bendAt", "(II)I"⟩
abbrev c_U_costTogether : ByteArray := prog_8_method_7_code
def y_U_costTogether : MethodName := ⟨"GentleRoad$Survey", "costTogether", "(I)I"⟩
abbrev c_U_hairpins : ByteArray := prog_8_method_8_code
def y_U_hairpins : MethodName := ⟨"GentleRoad$Survey", "hairpins", "(I)I"⟩
abbrev c_U_firstBrokenStep : ByteArray := prog_8_method_9_code
def y_U_firstBrokenStep : MethodName := ⟨"GentleRoad$Survey", "firstBrokenStep", "(I)I"⟩
abbrev c_U_firstBrokenBend : ByteArray := prog_8_method_10_code
def y_U_firstBrokenBend : MethodName := ⟨"GentleRoad$Survey", "firstBrokenBend", "(I)I"⟩
abbrev c_U_levelAt : ByteArray := prog_8_method_11_code
def y_U_levelAt : MethodName := ⟨"GentleRoad$Survey", "levelAt", "(II)I"⟩
abbrev c_U_steepest : ByteArray := prog_8_method_12_code
def y_U_steepest : MethodName := ⟨"GentleRoad$Survey", "steepest", "(I)I"⟩
abbrev c_U_earthTogether : ByteArray := prog_8_method_13_code
def y_U_earthTogether : MethodName := ⟨"GentleRoad$Survey", "earthTogether", "(I)I"⟩
abbrev c_U_offsetsTogether : ByteArray := prog_8_method_14_code
def y_U_offsetsTogether : MethodName := ⟨"GentleRoad$Survey", "offsetsTogether", "(I)I"⟩
abbrev c_U_greatestLevel : ByteArray := prog_8_method_15_code
def y_U_greatestLevel : MethodName := ⟨"GentleRoad$Survey", "greatestLevel", "(II)I"⟩
abbrev c_U_longestStraight : ByteArray := prog_8_method_16_code
def y_U_longestStraight : MethodName := ⟨"GentleRoad$Survey", "longestStraight", "(I)I"⟩
abbrev c_U_bridgesOver : ByteArray := prog_8_method_17_code
def y_U_bridgesOver : MethodName := ⟨"GentleRoad$Survey", "bridgesOver", "(II)I"⟩
abbrev c_U_leastStage : ByteArray := prog_8_method_18_code
def y_U_leastStage : MethodName := ⟨"GentleRoad$Survey", "leastStage", "(II)I"⟩
abbrev c_U_partsWithin : ByteArray := prog_8_method_19_code
def y_U_partsWithin : MethodName := ⟨"GentleRoad$Survey", "partsWithin", "(II)I"⟩
abbrev c_U_shared : ByteArray := prog_8_method_20_code
def y_U_shared : MethodName := ⟨"GentleRoad$Survey", "shared", "(II)I"⟩
theorem yk_U_answer : zYv y_U_answer c_U_answer 3 (some .int) 2 := ⟨ztc7 20 rfl rfl, ztc7 18 (by decide +kernel) rfl, ztc7 19 (by decide +kernel) rfl, ztc1 13 (by decide +kernel) rfl, by decide +kernel⟩
theorem yk_U_steps : zYv y_U_steps c_U_steps 2 (some .int) 1 := ⟨ztc7 29 rfl rfl, ztc7 28 (by decide +kernel) rfl, ztp (q := (y_U_steps, 4)) 42 (by decide +kernel), ztc1 13 (by decide +kernel) rfl, by decide +kernel⟩
theorem yk_U_longTogether : zYv y_U_longTogether c_U_longTogether 4 (some .int) 1 := ⟨ztc7 25 rfl rfl, ztc7 24 (by decide +kernel) rfl, ztp (q := (y_U_longTogether, 4)) 41 (by decide +kernel), ztc1 13 (by decide +kernel) rfl, by decide +kernel⟩
theorem yk_U_climbed : zYv y_U_climbed c_U_climbed 6 (some .int) 2 := ⟨ztc7 35 rfl rfl, ztc7 34 (by decide +kernel) rfl, ztp (q := (y_U_climbed, 4)) 43 (by decide +kernel), ztc1 13 (by decide +kernel) rfl, by decide +kernel⟩
theorem yk_U_bendAt : zYv y_U_bendAt c_U_bendAt 3 (some .int) 2 := ⟨ztc7 50 rfl rfl, ztc7 49 (by decide +kernel) rfl, ztp (q := (y_U_bendAt, 4)) 45 (by decide +kernel), ztc1 13 (by decide +kernel) rfl, by decide +kernel⟩
theorem yk_U_costTogether : zYv y_U_costTogether c_U_costTogether 4 (some .int) 1 := ⟨ztc7 42 rfl rfl, ztc7 41 (by decide +kernel) rfl, ztp (q := (y_U_costTogether, 4)) 44 (by decide +kernel), ztc1 13 (by decide +kernel) rfl, by decide +kernel⟩
theorem yk_U_hairpins : zYv y_U_hairpins c_U_hairpins 4 (some .int) 1 := ⟨ztc7 56 rfl rfl, ztc7 55 (by decide +kernel) rfl, ztp (q := (y_U_hairpins, 4)) 46 (by decide +kernel), ztc1 13 (by decide +kernel) rfl, by decide +kernel⟩
theorem yk_U_firstBrokenStep : zYv y_U_firstBrokenStep c_U_firstBrokenStep 3 (some .int) 1 := ⟨ztc7 61 rfl rfl, ztc7 60 (by decide +kernel) rfl, ztp (q := (y_U_firstBrokenStep, 4)) 47 (by decide +kernel), ztc1 13 (by decide +kernel) rfl, by decide +kernel⟩
theorem yk_U_firstBrokenBend : zYv y_U_firstBrokenBend c_U_firstBrokenBend 3 (some .int) 1 := ⟨ztc7 66 rfl rfl, ztc7 65 (by decide +kernel) rfl, ztp (q := (y_U_firstBrokenBend, 4)) 48 (by decide +kernel), ztc1 13 (by decide +kernel) rfl, by decide +kernel⟩
theorem yk_U_levelAt : zYv y_U_levelAt c_U_levelAt 3 (some .int) 2 := ⟨ztc7 75 rfl rfl, ztc7 74 (by decide +kernel) rfl, ztp (q := (y_U_levelAt, 4)) 50 (by decide +kernel), ztc1 13 (by decide +kernel) rfl, by decide +kernel⟩
theorem yk_U_steepest : zYv y_U_steepest c_U_steepest 8 (some .int) 1 := ⟨ztc7 71 rfl rfl, ztc7 70 (by decide +kernel) rfl, ztp (q := (y_U_steepest, 4)) 49 (by decide +kernel), ztc1 13 (by decide +kernel) rfl, by decide +kernel⟩
theorem yk_U_earthTogether : zYv y_U_earthTogether c_U_earthTogether 4 (some .int) 1 := ⟨ztc7 86 rfl rfl, ztc7 85 (by decide +kernel) rfl, ztp (q := (y_U_earthTogether, 4)) 51 (by decide +kernel), ztc1 13 (by decide +kernel) rfl, by decide +kernel⟩
theorem yk_U_offsetsTogether : zYv y_U_offsetsTogether c_U_offsetsTogether 4 (some .int) 1 := ⟨ztc7 91 rfl rfl, ztc7 90 (by decide +kernel) rfl, ztp (q := (y_U_offsetsTogether, 4)) 52 (by decide +kernel), ztc1 13 (by decide +kernel) rfl, by decide +kernel⟩
theorem yk_U_greatestLevel : zYv y_U_greatestLevel c_U_greatestLevel 5 (some .int) 2 := ⟨ztc7 100 rfl rfl, ztc7 99 (by decide +kernel) rfl, ztp (q := (y_U_greatestLevel, 4)) 53 (by decide +kernel), ztc1 13 (by decide +kernel) rfl, by decide +kernel⟩
theorem yk_U_longestStraight : zYv y_U_longestStraight c_U_longestStraight 5 (some .int) 1 := ⟨ztc7 105 rfl rfl, ztc7 104 (by decide +kernel) rfl, ztp (q := (y_U_longestStraight, 4)) 54 (by decide +kernel), ztc1 13 (by decide +kernel) rfl, by decide +kernel⟩
theorem yk_U_bridgesOver : zYv y_U_bridgesOver c_U_bridgesOver 6 (some .int) 2 := ⟨ztc7 160 rfl rfl, ztc7 158 (by decide +kernel) rfl, ztc7 159 (by decide +kernel) rfl, ztc1 13 (by decide +kernel) rfl, by decide +kernel⟩
theorem yk_U_leastStage : zYv y_U_leastStage c_U_leastStage 6 (some .int) 2 := ⟨ztc7 218 rfl rfl, ztc7 216 (by decide +kernel) rfl, ztc7 217 (by decide +kernel) rfl, ztc1 13 (by decide +kernel) rfl, by decide +kernel⟩
theorem yk_U_partsWithin : zYv y_U_partsWithin c_U_partsWithin 7 (some .int) 2 := ⟨ztc7 222 rfl rfl, ztc7 221 (by decide +kernel) rfl, ztp (q := (y_U_partsWithin, 4)) 58 (by decide +kernel), ztc1 13 (by decide +kernel) rfl, by decide +kernel⟩
theorem yk_U_shared : zYv y_U_shared c_U_shared 6 (some .int) 2 := ⟨ztc7 233 rfl rfl, ztc7 231 (by decide +kernel) rfl, ztc7 232 (by decide +kernel) rfl, ztc1 13 (by decide +kernel) rfl, by decide +kernel⟩
abbrev c_R_init : ByteArray := prog_1_method_1_code
def y_R_init : MethodName := ⟨"GentleRoad", "<init>", "()V"⟩
abbrev c_R_feed : ByteArray := prog_1_method_2_code
def y_R_feed : MethodName := ⟨"GentleRoad", "feed", "(IIIII)I"⟩
abbrev c_R_end : ByteArray := prog_1_method_3_code
def y_R_end : MethodName := ⟨"GentleRoad", "end", "(I)Z"⟩
abbrev c_R_land : ByteArray := prog_1_method_4_code
def y_R_land : MethodName := ⟨"GentleRoad", "land", "()I"⟩
abbrev c_R_fault : ByteArray := prog_1_method_5_code
def y_R_fault : MethodName := ⟨"GentleRoad", "fault", "()I"⟩
abbrev c_R_place : ByteArray := prog_1_method_6_code
def y_R_place : MethodName := ⟨"GentleRoad", "place", "(II)I"⟩
abbrev c_R_term : ByteArray := prog_1_method_7_code
def y_R_term : MethodName := ⟨"GentleRoad", "term", "(I)I"⟩
abbrev c_R_tune : ByteArray := prog_1_method_8_code
def y_R_tune : MethodName := ⟨"GentleRoad", "tune", "(II)I"⟩
abbrev c_R_raise : ByteArray := prog_1_method_9_code
def y_R_raise : MethodName := ⟨"GentleRoad", "raise", "(II)I"⟩
abbrev c_R_flood : ByteArray := prog_1_method_10_code
def y_R_flood : MethodName := ⟨"GentleRoad", "flood", "(IZ)Z"⟩
abbrev c_R_build : ByteArray := prog_1_method_11_code
def y_R_build : MethodName := ⟨"GentleRoad", "build", "(III)I"⟩
abbrev c_R_drop : ByteArray := prog_1_method_12_code
def y_R_drop : MethodName := ⟨"GentleRoad", "drop", "(I)I"⟩
abbrev c_R_level : ByteArray := prog_1_method_13_code
def y_R_level : MethodName := ⟨"GentleRoad", "level", "(II)I"⟩
abbrev c_R_undo : ByteArray := prog_1_method_14_code
def y_R_undo : MethodName := ⟨"GentleRoad", "undo", "()I"⟩
abbrev c_R_best : ByteArray := prog_1_method_15_code
def y_R_best : MethodName := ⟨"GentleRoad", "best", "(III)I"⟩
abbrev c_R_along : ByteArray := prog_1_method_16_code
def y_R_along : MethodName := ⟨"GentleRoad", "along", "(IIII)I"⟩
abbrev c_R_reach : ByteArray := prog_1_method_17_code
def y_R_reach : MethodName := ⟨"GentleRoad", "reach", "(I)I"⟩
abbrev c_R_grade : ByteArray := prog_1_method_18_code
def y_R_grade : MethodName := ⟨"GentleRoad", "grade", "(II)I"⟩
abbrev c_R_gate : ByteArray := prog_1_method_19_code
def y_R_gate : MethodName := ⟨"GentleRoad", "gate", "(II)I"⟩
abbrev c_R_bored : ByteArray := prog_1_method_20_code
def y_R_bored : MethodName := ⟨"GentleRoad", "bored", "(III)I"⟩
abbrev c_R_meet : ByteArray := prog_1_method_21_code
def y_R_meet : MethodName := ⟨"GentleRoad", "meet", "(IIII)I"⟩
abbrev c_R_round : ByteArray := prog_1_method_22_code
def y_R_round : MethodName := ⟨"GentleRoad", "round", "()I"⟩
abbrev c_R_road : ByteArray := prog_1_method_23_code
def y_R_road : MethodName := ⟨"GentleRoad", "road", "(II)I"⟩
abbrev c_R_at : ByteArray := prog_1_method_24_code
def y_R_at : MethodName := ⟨"GentleRoad", "at", "(IIZ)I"⟩
abbrev c_R_earth : ByteArray := prog_1_method_25_code
def y_R_earth : MethodName := ⟨"GentleRoad", "earth", "(II)I"⟩
abbrev c_R_water : ByteArray := prog_1_method_26_code
def y_R_water : MethodName := ⟨"GentleRoad", "water", "(II)I"⟩
abbrev c_R_bridges : ByteArray := prog_1_method_27_code
def y_R_bridges : MethodName := ⟨"GentleRoad", "bridges", "(II)I"⟩
abbrev c_R_joins : ByteArray := prog_1_method_28_code
def y_R_joins : MethodName := ⟨"GentleRoad", "joins", "(III)I"⟩
abbrev c_R_spare : ByteArray := prog_1_method_29_code
def y_R_spare : MethodName := ⟨"GentleRoad", "spare", "(III)I"⟩
abbrev c_R_stages : ByteArray := prog_1_method_30_code
def y_R_stages : MethodName := ⟨"GentleRoad", "stages", "(II)I"⟩
abbrev c_R_common : ByteArray := prog_1_method_31_code
def y_R_common : MethodName := ⟨"GentleRoad", "common", "(II)I"⟩
abbrev c_R_image : ByteArray := prog_1_method_32_code
def y_R_image : MethodName := ⟨"GentleRoad", "image", "()V"⟩
abbrev c_R_back : ByteArray := prog_1_method_33_code
def y_R_back : MethodName := ⟨"GentleRoad", "back", "()Z"⟩
abbrev c_R_count : ByteArray := prog_1_method_34_code
def y_R_count : MethodName := ⟨"GentleRoad", "count", "(I)I"⟩
abbrev c_R_remember : ByteArray := prog_1_method_35_code
def y_R_remember : MethodName := ⟨"GentleRoad", "remember", "()V"⟩
abbrev c_R_needPlace : ByteArray := prog_1_method_36_code
def y_R_needPlace : MethodName := ⟨"GentleRoad", "needPlace", "(I)V"⟩
abbrev c_R_needPair : ByteArray := prog_1_method_37_code
def y_R_needPair : MethodName := ⟨"GentleRoad", "needPair", "(II)V"⟩
abbrev c_R_needRoad : ByteArray := prog_1_method_38_code
def y_R_needRoad : MethodName := ⟨"GentleRoad", "needRoad", "(I)V"⟩
abbrev c_R_needAnswer : ByteArray := prog_1_method_39_code
def y_R_needAnswer : MethodName := ⟨"GentleRoad", "needAnswer", "(II)V"⟩
abbrev c_R_needNumber : ByteArray := prog_1_method_40_code
def y_R_needNumber : MethodName := ⟨"GentleRoad", "needNumber", "(III)V"⟩
abbrev c_R_needUnlike : ByteArray := prog_1_method_41_code
def y_R_needUnlike : MethodName := ⟨"GentleRoad", "needUnlike", "(II)V"⟩
abbrev c_R_needBuilt : ByteArray := prog_1_method_42_code
def y_R_needBuilt : MethodName := ⟨"GentleRoad", "needBuilt", "(I)V"⟩
abbrev c_R_longOf : ByteArray := prog_1_method_43_code
def y_R_longOf : MethodName := ⟨"GentleRoad", "longOf", "(I)I"⟩
abbrev c_R_opposite : ByteArray := prog_1_method_44_code
def y_R_opposite : MethodName := ⟨"GentleRoad", "opposite", "(I)I"⟩
abbrev c_R_eighths : ByteArray := prog_1_method_45_code
def y_R_eighths : MethodName := ⟨"GentleRoad", "eighths", "(II)I"⟩
theorem yk_R_feed : zYv y_R_feed c_R_feed 6 (some .int) 5 := ⟨ztc2 92 rfl rfl, ztc2 90 (by decide +kernel) rfl, ztc2 91 (by decide +kernel) rfl, ztc1 1 (by decide +kernel) rfl, by decide +kernel⟩
theorem yk_R_end : zYv y_R_end c_R_end 2 (some .boolean) 1 := ⟨ztc2 108 rfl rfl, ztc2 106 (by decide +kernel) rfl, ztc2 107 (by decide +kernel) rfl, ztc1 1 (by decide +kernel) rfl, by decide +kernel⟩
theorem yk_R_land : zYv y_R_land c_R_land 1 (some .int) 0 := ⟨ztc2 211 rfl rfl, ztc2 209 (by decide +kernel) rfl, ztc2 210 (by decide +kernel) rfl, ztc1 1 (by decide +kernel) rfl, by decide +kernel⟩
theorem yk_R_fault : zYv y_R_fault c_R_fault 1 (some .int) 0 := ⟨ztc2 116 rfl rfl, ztc2 114 (by decide +kernel) rfl, ztc2 115 (by decide +kernel) rfl, ztc1 1 (by decide +kernel) rfl, by decide +kernel⟩
theorem yk_R_place : zYv y_R_place c_R_place 3 (some .int) 2 := ⟨ztc3 176 rfl rfl, ztc3 174 (by decide +kernel) rfl, ztc3 175 (by decide +kernel) rfl, ztc1 1 (by decide +kernel) rfl, by decide +kernel⟩
theorem yk_R_term : zYv y_R_term c_R_term 2 (some .int) 1 := ⟨ztc4 21 rfl rfl, ztc4 19 (by decide +kernel) rfl, ztc4 20 (by decide +kernel) rfl, ztc1 1 (by decide +kernel) rfl, by decide +kernel⟩
theorem yk_R_tune : zYv y_R_tune c_R_tune 4 (some .int) 2 := ⟨ztc4 29 rfl rfl, ztc4 27 (by decide +kernel) rfl, ztc4 28 (by decide +kernel) rfl, ztc1 1 (by decide +kernel) rfl, by decide +kernel⟩
theorem yk_R_raise : zYv y_R_raise c_R_raise 4 (some .int) 2 := ⟨ztc4 60 rfl rfl, ztc4 58 (by decide +kernel) rfl, ztc4 59 (by decide +kernel) rfl, ztc1 1 (by decide +kernel) rfl, by decide +kernel⟩
theorem yk_R_flood : zYv y_R_flood c_R_flood 4 (some .boolean) 2 := ⟨ztc4 71 rfl rfl, ztc4 69 (by decide +kernel) rfl, ztc4 70 (by decide +kernel) rfl, ztc1 1 (by decide +kernel) rfl, by decide +kernel⟩
theorem yk_R_build : zYv y_R_build c_R_build 5 (some .int) 3 := ⟨ztc4 83 rfl rfl, ztc4 81 (by decide +kernel) rfl, ztc4 82 (by decide +kernel) rfl, ztc1 1 (by decide +kernel) rfl, by decide +kernel⟩
theorem yk_R_drop : zYv y_R_drop c_R_drop 3 (some .int) 1 := ⟨ztc6 22 rfl rfl, ztc6 20 (by decide +kernel) rfl, ztc6 21 (by decide +kernel) rfl, ztc1 1 (by decide +kernel) rfl, by decide +kernel⟩
theorem yk_R_level : zYv y_R_level c_R_level 4 (some .int) 2 := ⟨ztc6 37 rfl rfl, ztc6 35 (by decide +kernel) rfl, ztc6 36 (by decide +kernel) rfl, ztc1 1 (by decide +kernel) rfl, by decide +kernel⟩
theorem yk_R_undo : zYv y_R_undo c_R_undo 1 (some .int) 0 := ⟨ztc6 92 rfl rfl, ztc6 90 (by decide +kernel) rfl, ztc6 91 (by decide +kernel) rfl, ztc1 1 (by decide +kernel) rfl, by decide +kernel⟩
theorem yk_R_best : zYv y_R_best c_R_best 4 (some .int) 3 := ⟨ztc6 105 rfl rfl, ztc6 103 (by decide +kernel) rfl, ztc6 104 (by decide +kernel) rfl, ztc1 1 (by decide +kernel) rfl, by decide +kernel⟩
theorem yk_R_along : zYv y_R_along c_R_along 5 (some .int) 4 := ⟨ztc6 116 rfl rfl, ztc6 114 (by decide +kernel) rfl, ztc6 115 (by decide +kernel) rfl, ztc1 1 (by decide +kernel) rfl, by decide +kernel⟩
theorem yk_R_reach : zYv y_R_reach c_R_reach 2 (some .int) 1 := ⟨ztc6 123 rfl rfl, ztc6 121 (by decide +kernel) rfl, ztc6 122 (by decide +kernel) rfl, ztc1 1 (by decide +kernel) rfl, by decide +kernel⟩
theorem yk_R_grade : zYv y_R_grade c_R_grade 3 (some .int) 2 := ⟨ztc6 145 rfl rfl, ztc6 143 (by decide +kernel) rfl, ztc6 144 (by decide +kernel) rfl, ztc1 1 (by decide +kernel) rfl, by decide +kernel⟩
theorem yk_R_gate : zYv y_R_gate c_R_gate 3 (some .int) 2 := ⟨ztc6 160 rfl rfl, ztc6 158 (by decide +kernel) rfl, ztc6 159 (by decide +kernel) rfl, ztc1 1 (by decide +kernel) rfl, by decide +kernel⟩
theorem yk_R_bored : zYv y_R_bored c_R_bored 4 (some .int) 3 := ⟨ztc6 187 rfl rfl, ztc6 185 (by decide +kernel) rfl, ztc6 186 (by decide +kernel) rfl, ztc1 1 (by decide +kernel) rfl, by decide +kernel⟩
theorem yk_R_meet : zYv y_R_meet c_R_meet 6 (some .int) 4 := ⟨ztc6 198 rfl rfl, ztc6 196 (by decide +kernel) rfl, ztc6 197 (by decide +kernel) rfl, ztc1 1 (by decide +kernel) rfl, by decide +kernel⟩
theorem yk_R_round : zYv y_R_round c_R_round 2 (some .int) 0 := ⟨ztc6 230 rfl rfl, ztc6 228 (by decide +kernel) rfl, ztc6 229 (by decide +kernel) rfl, ztc1 1 (by decide +kernel) rfl, by decide +kernel⟩
theorem yk_R_road : zYv y_R_road c_R_road 3 (some .int) 2 := ⟨ztc7 16 rfl rfl, ztc7 14 (by decide +kernel) rfl, ztc7 15 (by decide +kernel) rfl, ztc1 1 (by decide +kernel) rfl, by decide +kernel⟩
theorem yk_R_at : zYv y_R_at c_R_at 4 (some .int) 3 := ⟨ztc7 112 rfl rfl, ztc7 110 (by decide +kernel) rfl, ztc7 111 (by decide +kernel) rfl, ztc1 1 (by decide +kernel) rfl, by decide +kernel⟩
theorem yk_R_earth : zYv y_R_earth c_R_earth 3 (some .int) 2 := ⟨ztc7 121 rfl rfl, ztc7 119 (by decide +kernel) rfl, ztc7 120 (by decide +kernel) rfl, ztc1 1 (by decide +kernel) rfl, by decide +kernel⟩
theorem yk_R_water : zYv y_R_water c_R_water 3 (some .int) 2 := ⟨ztc7 128 rfl rfl, ztc7 126 (by decide +kernel) rfl, ztc7 127 (by decide +kernel) rfl, ztc1 1 (by decide +kernel) rfl, by decide +kernel⟩
theorem yk_R_bridges : zYv y_R_bridges c_R_bridges 3 (some .int) 2 := ⟨ztc7 156 rfl rfl, ztc7 154 (by decide +kernel) rfl, ztc7 155 (by decide +kernel) rfl, ztc1 1 (by decide +kernel) rfl, by decide +kernel⟩
theorem yk_R_joins : zYv y_R_joins c_R_joins 6 (some .int) 3 := ⟨ztc7 170 rfl rfl, ztc7 168 (by decide +kernel) rfl, ztc7 169 (by decide +kernel) rfl, ztc1 1 (by decide +kernel) rfl, by decide +kernel⟩
theorem yk_R_spare : zYv y_R_spare c_R_spare 5 (some .int) 3 := ⟨ztc7 184 rfl rfl, ztc7 182 (by decide +kernel) rfl, ztc7 183 (by decide +kernel) rfl, ztc1 1 (by decide +kernel) rfl, by decide +kernel⟩
theorem yk_R_stages : zYv y_R_stages c_R_stages 3 (some .int) 2 := ⟨ztc7 214 rfl rfl, ztc7 212 (by decide +kernel) rfl, ztc7 213 (by decide +kernel) rfl, ztc1 1 (by decide +kernel) rfl, by decide +kernel⟩
theorem yk_R_common : zYv y_R_common c_R_common 3 (some .int) 2 := ⟨ztc7 229 rfl rfl, ztc7 227 (by decide +kernel) rfl, ztc7 228 (by decide +kernel) rfl, ztc1 1 (by decide +kernel) rfl, by decide +kernel⟩
theorem yk_R_image : zYv y_R_image c_R_image 1 none 0 := ⟨ztc2 120 rfl rfl, ztc2 118 (by decide +kernel) rfl, ztc2 119 (by decide +kernel) rfl, ztc1 1 (by decide +kernel) rfl, by decide +kernel⟩
theorem yk_R_back : zYv y_R_back c_R_back 1 (some .boolean) 0 := ⟨ztc2 128 rfl rfl, ztc2 126 (by decide +kernel) rfl, ztc2 127 (by decide +kernel) rfl, ztc1 1 (by decide +kernel) rfl, by decide +kernel⟩
theorem yk_R_count : zYv y_R_count c_R_count 2 (some .int) 1 := ⟨ztc2 160 rfl rfl, ztc2 158 (by decide +kernel) rfl, ztc2 159 (by decide +kernel) rfl, ztc1 1 (by decide +kernel) rfl, by decide +kernel⟩
theorem yk_R_remember : zYv y_R_remember c_R_remember 1 none 0 := ⟨ztc4 40 rfl rfl, ztc4 39 (by decide +kernel) rfl, ztp (q := (y_R_remember, 12)) 16 (by decide +kernel), ztc1 1 (by decide +kernel) rfl, by decide +kernel⟩
theorem yk_R_needPlace : zYv y_R_needPlace c_R_needPlace 2 none 1 := ⟨ztc3 180 rfl rfl, ztc3 179 (by decide +kernel) rfl, ztp (q := (y_R_needPlace, 12)) 13 (by decide +kernel), ztc1 1 (by decide +kernel) rfl, by decide +kernel⟩
theorem yk_R_needPair : zYv y_R_needPair c_R_needPair 3 none 2 := ⟨ztc4 92 rfl rfl, ztc4 91 (by decide +kernel) rfl, ztp (q := (y_R_needPair, 12)) 19 (by decide +kernel), ztc1 1 (by decide +kernel) rfl, by decide +kernel⟩
theorem yk_R_needRoad : zYv y_R_needRoad c_R_needRoad 2 none 1 := ⟨ztc4 87 rfl rfl, ztc4 86 (by decide +kernel) rfl, ztp (q := (y_R_needRoad, 12)) 18 (by decide +kernel), ztc1 1 (by decide +kernel) rfl, by decide +kernel⟩
theorem yk_R_needAnswer : zYv y_R_needAnswer c_R_needAnswer 3 none 2 := ⟨ztc3 200 rfl rfl, ztc3 199 (by decide +kernel) rfl, ztp (q := (y_R_needAnswer, 12)) 14 (by decide +kernel), ztc1 1 (by decide +kernel) rfl, by decide +kernel⟩
theorem yk_R_needNumber : zYv y_R_needNumber c_R_needNumber 4 none 3 := ⟨ztc4 35 rfl rfl, ztc4 34 (by decide +kernel) rfl, ztp (q := (y_R_needNumber, 12)) 15 (by decide +kernel), ztc1 1 (by decide +kernel) rfl, by decide +kernel⟩
theorem yk_R_needUnlike : zYv y_R_needUnlike c_R_needUnlike 3 none 2 := ⟨ztc4 96 rfl rfl, ztc4 95 (by decide +kernel) rfl, ztp (q := (y_R_needUnlike, 12)) 20 (by decide +kernel), ztc1 1 (by decide +kernel) rfl, by decide +kernel⟩
theorem yk_R_needBuilt : zYv y_R_needBuilt c_R_needBuilt 2 none 1 := ⟨ztc6 26 rfl rfl, ztc6 25 (by decide +kernel) rfl, ztp (q := (y_R_needBuilt, 12)) 30 (by decide +kernel), ztc1 1 (by decide +kernel) rfl, by decide +kernel⟩
theorem yk_R_longOf : zYs y_R_longOf c_R_longOf 1 (some .int) 1 := ⟨ztc4 14 rfl rfl, ztc4 13 (by decide +kernel) rfl, ztc1 1 (by decide +kernel) rfl, by decide +kernel⟩
theorem yk_R_opposite : zYs y_R_opposite c_R_opposite 1 (some .int) 1 := ⟨ztc4 132 rfl rfl, ztc4 131 (by decide +kernel) rfl, ztc1 1 (by decide +kernel) rfl, by decide +kernel⟩
theorem yk_R_eighths : zYs y_R_eighths c_R_eighths 3 (some .int) 2 := ⟨ztc5 181 rfl rfl, ztc5 180 (by decide +kernel) rfl, ztc1 1 (by decide +kernel) rfl, by decide +kernel⟩
abbrev c_M_init : ByteArray := prog_13_method_1_code
def y_M_init : MethodName := ⟨"GentleRoadModel", "<init>", "()V"⟩
abbrev c_M_thrown : ByteArray := prog_13_method_2_code
def y_M_thrown : MethodName := ⟨"GentleRoadModel", "thrown", "()I"⟩
abbrev c_M_isIn : ByteArray := prog_13_method_3_code
def y_M_isIn : MethodName := ⟨"GentleRoadModel", "isIn", "(III)Z"⟩
abbrev c_M_apart : ByteArray := prog_13_method_4_code
def y_M_apart : MethodName := ⟨"GentleRoadModel", "apart", "(II)I"⟩
abbrev c_M_lesser : ByteArray := prog_13_method_5_code
def y_M_lesser : MethodName := ⟨"GentleRoadModel", "lesser", "(II)I"⟩
abbrev c_M_places : ByteArray := prog_13_method_6_code
def y_M_places : MethodName := ⟨"GentleRoadModel", "places", "()I"⟩
abbrev c_M_isPlace : ByteArray := prog_13_method_7_code
def y_M_isPlace : MethodName := ⟨"GentleRoadModel", "isPlace", "(I)Z"⟩
abbrev c_M_isWet : ByteArray := prog_13_method_8_code
def y_M_isWet : MethodName := ⟨"GentleRoadModel", "isWet", "(I)Z"⟩
abbrev c_M_beside : ByteArray := prog_13_method_9_code
def y_M_beside : MethodName := ⟨"GentleRoadModel", "beside", "(II)I"⟩
abbrev c_M_longOf : ByteArray := prog_13_method_10_code
def y_M_longOf : MethodName := ⟨"GentleRoadModel", "longOf", "(I)I"⟩
abbrev c_M_differ : ByteArray := prog_13_method_11_code
def y_M_differ : MethodName := ⟨"GentleRoadModel", "differ", "(II)I"⟩
abbrev c_M_isSteep : ByteArray := prog_13_method_12_code
def y_M_isSteep : MethodName := ⟨"GentleRoadModel", "isSteep", "(II)Z"⟩
abbrev c_M_isOpen : ByteArray := prog_13_method_13_code
def y_M_isOpen : MethodName := ⟨"GentleRoadModel", "isOpen", "(II)Z"⟩
abbrev c_M_canStep : ByteArray := prog_13_method_14_code
def y_M_canStep : MethodName := ⟨"GentleRoadModel", "canStep", "(II)Z"⟩
abbrev c_M_eighths : ByteArray := prog_13_method_15_code
def y_M_eighths : MethodName := ⟨"GentleRoadModel", "eighths", "(II)I"⟩
abbrev c_M_isFlat : ByteArray := prog_13_method_16_code
def y_M_isFlat : MethodName := ⟨"GentleRoadModel", "isFlat", "(I)Z"⟩
abbrev c_M_canBend : ByteArray := prog_13_method_17_code
def y_M_canBend : MethodName := ⟨"GentleRoadModel", "canBend", "(III)Z"⟩
abbrev c_M_bendCost : ByteArray := prog_13_method_18_code
def y_M_bendCost : MethodName := ⟨"GentleRoadModel", "bendCost", "(II)I"⟩
abbrev c_M_climb : ByteArray := prog_13_method_19_code
def y_M_climb : MethodName := ⟨"GentleRoadModel", "climb", "(II)I"⟩
abbrev c_M_isUsed : ByteArray := prog_13_method_20_code
def y_M_isUsed : MethodName := ⟨"GentleRoadModel", "isUsed", "(II)Z"⟩
abbrev c_M_stepOf : ByteArray := prog_13_method_21_code
def y_M_stepOf : MethodName := ⟨"GentleRoadModel", "stepOf", "(III)I"⟩
abbrev c_M_bendOf : ByteArray := prog_13_method_22_code
def y_M_bendOf : MethodName := ⟨"GentleRoadModel", "bendOf", "(III)I"⟩
abbrev c_M_isLess : ByteArray := prog_13_method_23_code
def y_M_isLess : MethodName := ⟨"GentleRoadModel", "isLess", "(III)Z"⟩
abbrev c_M_eases : ByteArray := prog_13_method_24_code
def y_M_eases : MethodName := ⟨"GentleRoadModel", "eases", "(III)Z"⟩
abbrev c_M_goesTo : ByteArray := prog_13_method_25_code
def y_M_goesTo : MethodName := ⟨"GentleRoadModel", "goesTo", "(II)V"⟩
abbrev c_M_isWay : ByteArray := prog_13_method_26_code
def y_M_isWay : MethodName := ⟨"GentleRoadModel", "isWay", "(III)Z"⟩
abbrev c_M_headingOf : ByteArray := prog_13_method_27_code
def y_M_headingOf : MethodName := ⟨"GentleRoadModel", "headingOf", "(II)I"⟩
abbrev c_M_heading : ByteArray := prog_13_method_28_code
def y_M_heading : MethodName := ⟨"GentleRoadModel", "heading", "(II)I"⟩
abbrev c_M_measure : ByteArray := prog_13_method_29_code
def y_M_measure : MethodName := ⟨"GentleRoadModel", "measure", "(I)I"⟩
abbrev c_M_isLesser : ByteArray := prog_13_method_30_code
def y_M_isLesser : MethodName := ⟨"GentleRoadModel", "isLesser", "(II)Z"⟩
abbrev c_M_goesFrom : ByteArray := prog_13_method_31_code
def y_M_goesFrom : MethodName := ⟨"GentleRoadModel", "goesFrom", "(I)V"⟩
abbrev c_M_costAt : ByteArray := prog_13_method_32_code
def y_M_costAt : MethodName := ⟨"GentleRoadModel", "costAt", "(I)I"⟩
abbrev c_M_isThere : ByteArray := prog_13_method_33_code
def y_M_isThere : MethodName := ⟨"GentleRoadModel", "isThere", "(II)Z"⟩
abbrev c_M_runOf : ByteArray := prog_13_method_34_code
def y_M_runOf : MethodName := ⟨"GentleRoadModel", "runOf", "(I)I"⟩
abbrev c_M_laysCatches : ByteArray := prog_13_method_35_code
def y_M_laysCatches : MethodName := ⟨"GentleRoadModel", "laysCatches", "()V"⟩
abbrev c_M_isEdge : ByteArray := prog_13_method_36_code
def y_M_isEdge : MethodName := ⟨"GentleRoadModel", "isEdge", "(I)Z"⟩
abbrev c_M_sinks : ByteArray := prog_13_method_37_code
def y_M_sinks : MethodName := ⟨"GentleRoadModel", "sinks", "(I)Z"⟩
abbrev c_M_spillOf : ByteArray := prog_13_method_38_code
def y_M_spillOf : MethodName := ⟨"GentleRoadModel", "spillOf", "(I)I"⟩
abbrev c_M_water : ByteArray := prog_13_method_39_code
def y_M_water : MethodName := ⟨"GentleRoadModel", "water", "(II)I"⟩
abbrev c_M_bridges : ByteArray := prog_13_method_40_code
def y_M_bridges : MethodName := ⟨"GentleRoadModel", "bridges", "(II)I"⟩
abbrev c_M_feed : ByteArray := prog_13_method_41_code
def y_M_feed : MethodName := ⟨"GentleRoadModel", "feed", "(IIIII)I"⟩
abbrev c_M_end : ByteArray := prog_13_method_42_code
def y_M_end : MethodName := ⟨"GentleRoadModel", "end", "(I)Z"⟩
abbrev c_M_here : ByteArray := prog_13_method_43_code
def y_M_here : MethodName := ⟨"GentleRoadModel", "here", "()I"⟩
abbrev c_M_wrong : ByteArray := prog_13_method_44_code
def y_M_wrong : MethodName := ⟨"GentleRoadModel", "wrong", "(I)V"⟩
abbrev c_M_has : ByteArray := prog_13_method_45_code
def y_M_has : MethodName := ⟨"GentleRoadModel", "has", "(Ljava/lang/String;)Z"⟩
abbrev c_M_expects : ByteArray := prog_13_method_46_code
def y_M_expects : MethodName := ⟨"GentleRoadModel", "expects", "(Ljava/lang/String;)V"⟩
abbrev c_M_number : ByteArray := prog_13_method_47_code
def y_M_number : MethodName := ⟨"GentleRoadModel", "number", "(II)I"⟩
abbrev c_M_mustSign : ByteArray := prog_13_method_48_code
def y_M_mustSign : MethodName := ⟨"GentleRoadModel", "mustSign", "()V"⟩
abbrev c_M_heights : ByteArray := prog_13_method_49_code
def y_M_heights : MethodName := ⟨"GentleRoadModel", "heights", "()V"⟩
abbrev c_M_termHere : ByteArray := prog_13_method_50_code
def y_M_termHere : MethodName := ⟨"GentleRoadModel", "termHere", "()I"⟩
abbrev c_M_moreLine : ByteArray := prog_13_method_51_code
def y_M_moreLine : MethodName := ⟨"GentleRoadModel", "moreLine", "()V"⟩
abbrev c_M_land : ByteArray := prog_13_method_52_code
def y_M_land : MethodName := ⟨"GentleRoadModel", "land", "()I"⟩
abbrev c_M_fault : ByteArray := prog_13_method_53_code
def y_M_fault : MethodName := ⟨"GentleRoadModel", "fault", "()I"⟩
abbrev c_M_place : ByteArray := prog_13_method_54_code
def y_M_place : MethodName := ⟨"GentleRoadModel", "place", "(II)I"⟩
abbrev c_M_term : ByteArray := prog_13_method_55_code
def y_M_term : MethodName := ⟨"GentleRoadModel", "term", "(I)I"⟩
abbrev c_M_remembers : ByteArray := prog_13_method_56_code
def y_M_remembers : MethodName := ⟨"GentleRoadModel", "remembers", "()V"⟩
abbrev c_M_tune : ByteArray := prog_13_method_57_code
def y_M_tune : MethodName := ⟨"GentleRoadModel", "tune", "(II)I"⟩
abbrev c_M_raise : ByteArray := prog_13_method_58_code
def y_M_raise : MethodName := ⟨"GentleRoadModel", "raise", "(II)I"⟩
abbrev c_M_flood : ByteArray := prog_13_method_59_code
def y_M_flood : MethodName := ⟨"GentleRoadModel", "flood", "(IZ)Z"⟩
abbrev c_M_isRoad : ByteArray := prog_13_method_60_code
def y_M_isRoad : MethodName := ⟨"GentleRoadModel", "isRoad", "(I)Z"⟩
abbrev c_M_many : ByteArray := prog_13_method_61_code
def y_M_many : MethodName := ⟨"GentleRoadModel", "many", "(I)I"⟩
abbrev c_M_placeAt : ByteArray := prog_13_method_62_code
def y_M_placeAt : MethodName := ⟨"GentleRoadModel", "placeAt", "(II)I"⟩
abbrev c_M_offsetAt : ByteArray := prog_13_method_63_code
def y_M_offsetAt : MethodName := ⟨"GentleRoadModel", "offsetAt", "(II)I"⟩
abbrev c_M_two : ByteArray := prog_13_method_64_code
def y_M_two : MethodName := ⟨"GentleRoadModel", "two", "(II)I"⟩
abbrev c_M_build : ByteArray := prog_13_method_65_code
def y_M_build : MethodName := ⟨"GentleRoadModel", "build", "(III)I"⟩
abbrev c_M_drop : ByteArray := prog_13_method_66_code
def y_M_drop : MethodName := ⟨"GentleRoadModel", "drop", "(I)I"⟩
abbrev c_M_undo : ByteArray := prog_13_method_67_code
def y_M_undo : MethodName := ⟨"GentleRoadModel", "undo", "()I"⟩
abbrev c_M_earthOf : ByteArray := prog_13_method_68_code
def y_M_earthOf : MethodName := ⟨"GentleRoadModel", "earthOf", "(I)I"⟩
abbrev c_M_stepHeading : ByteArray := prog_13_method_69_code
def y_M_stepHeading : MethodName := ⟨"GentleRoadModel", "stepHeading", "(II)I"⟩
abbrev c_M_isRuled : ByteArray := prog_13_method_70_code
def y_M_isRuled : MethodName := ⟨"GentleRoadModel", "isRuled", "(IIIII)Z"⟩
abbrev c_M_cell : ByteArray := prog_13_method_71_code
def y_M_cell : MethodName := ⟨"GentleRoadModel", "cell", "(III)I"⟩
abbrev c_M_laysEarth : ByteArray := prog_13_method_72_code
def y_M_laysEarth : MethodName := ⟨"GentleRoadModel", "laysEarth", "(II)V"⟩
abbrev c_M_grading : ByteArray := prog_13_method_73_code
def y_M_grading : MethodName := ⟨"GentleRoadModel", "grading", "(II)I"⟩
abbrev c_M_chooses : ByteArray := prog_13_method_74_code
def y_M_chooses : MethodName := ⟨"GentleRoadModel", "chooses", "(III)V"⟩
abbrev c_M_level : ByteArray := prog_13_method_75_code
def y_M_level : MethodName := ⟨"GentleRoadModel", "level", "(II)I"⟩
abbrev c_M_earth : ByteArray := prog_13_method_76_code
def y_M_earth : MethodName := ⟨"GentleRoadModel", "earth", "(II)I"⟩
abbrev c_M_ruling : ByteArray := prog_13_method_77_code
def y_M_ruling : MethodName := ⟨"GentleRoadModel", "ruling", "(I)I"⟩
abbrev c_M_best : ByteArray := prog_13_method_78_code
def y_M_best : MethodName := ⟨"GentleRoadModel", "best", "(III)I"⟩
abbrev c_M_along : ByteArray := prog_13_method_79_code
def y_M_along : MethodName := ⟨"GentleRoadModel", "along", "(IIII)I"⟩
abbrev c_M_reach : ByteArray := prog_13_method_80_code
def y_M_reach : MethodName := ⟨"GentleRoadModel", "reach", "(I)I"⟩
abbrev c_M_grade : ByteArray := prog_13_method_81_code
def y_M_grade : MethodName := ⟨"GentleRoadModel", "grade", "(II)I"⟩
abbrev c_M_gate : ByteArray := prog_13_method_82_code
def y_M_gate : MethodName := ⟨"GentleRoadModel", "gate", "(II)I"⟩
abbrev c_M_isBorne : ByteArray := prog_13_method_83_code
def y_M_isBorne : MethodName := ⟨"GentleRoadModel", "isBorne", "(III)Z"⟩
abbrev c_M_bores : ByteArray := prog_13_method_84_code
def y_M_bores : MethodName := ⟨"GentleRoadModel", "bores", "(IIIII)Z"⟩
abbrev c_M_bored : ByteArray := prog_13_method_85_code
def y_M_bored : MethodName := ⟨"GentleRoadModel", "bored", "(III)I"⟩
abbrev c_M_addsFrom : ByteArray := prog_13_method_86_code
def y_M_addsFrom : MethodName := ⟨"GentleRoadModel", "addsFrom", "(I)V"⟩
abbrev c_M_meet : ByteArray := prog_13_method_87_code
def y_M_meet : MethodName := ⟨"GentleRoadModel", "meet", "(IIII)I"⟩
abbrev c_M_goesRound : ByteArray := prog_13_method_88_code
def y_M_goesRound : MethodName := ⟨"GentleRoadModel", "goesRound", "(III)V"⟩
abbrev c_M_areStops : ByteArray := prog_13_method_89_code
def y_M_areStops : MethodName := ⟨"GentleRoadModel", "areStops", "()Z"⟩
abbrev c_M_round : ByteArray := prog_13_method_90_code
def y_M_round : MethodName := ⟨"GentleRoadModel", "round", "()I"⟩
abbrev c_M_laysPath : ByteArray := prog_13_method_91_code
def y_M_laysPath : MethodName := ⟨"GentleRoadModel", "laysPath", "(I)V"⟩
abbrev c_M_hairpins : ByteArray := prog_13_method_92_code
def y_M_hairpins : MethodName := ⟨"GentleRoadModel", "hairpins", "(I)I"⟩
abbrev c_M_brokenStep : ByteArray := prog_13_method_93_code
def y_M_brokenStep : MethodName := ⟨"GentleRoadModel", "brokenStep", "(I)I"⟩
abbrev c_M_brokenBend : ByteArray := prog_13_method_94_code
def y_M_brokenBend : MethodName := ⟨"GentleRoadModel", "brokenBend", "(I)I"⟩
abbrev c_M_levels : ByteArray := prog_13_method_95_code
def y_M_levels : MethodName := ⟨"GentleRoadModel", "levels", "(II)I"⟩
abbrev c_M_steepest : ByteArray := prog_13_method_96_code
def y_M_steepest : MethodName := ⟨"GentleRoadModel", "steepest", "(I)I"⟩
abbrev c_M_earthNow : ByteArray := prog_13_method_97_code
def y_M_earthNow : MethodName := ⟨"GentleRoadModel", "earthNow", "(I)I"⟩
abbrev c_M_offsets : ByteArray := prog_13_method_98_code
def y_M_offsets : MethodName := ⟨"GentleRoadModel", "offsets", "(I)I"⟩
abbrev c_M_levelAt : ByteArray := prog_13_method_99_code
def y_M_levelAt : MethodName := ⟨"GentleRoadModel", "levelAt", "(II)I"⟩
abbrev c_M_highest : ByteArray := prog_13_method_100_code
def y_M_highest : MethodName := ⟨"GentleRoadModel", "highest", "(IZ)I"⟩
abbrev c_M_straight : ByteArray := prog_13_method_101_code
def y_M_straight : MethodName := ⟨"GentleRoadModel", "straight", "(I)I"⟩
abbrev c_M_descent : ByteArray := prog_13_method_102_code
def y_M_descent : MethodName := ⟨"GentleRoadModel", "descent", "(I)I"⟩
abbrev c_M_road : ByteArray := prog_13_method_103_code
def y_M_road : MethodName := ⟨"GentleRoadModel", "road", "(II)I"⟩
abbrev c_M_at : ByteArray := prog_13_method_104_code
def y_M_at : MethodName := ⟨"GentleRoadModel", "at", "(IIZ)I"⟩
abbrev c_M_hasStep : ByteArray := prog_13_method_105_code
def y_M_hasStep : MethodName := ⟨"GentleRoadModel", "hasStep", "(IIII)Z"⟩
abbrev c_M_common : ByteArray := prog_13_method_106_code
def y_M_common : MethodName := ⟨"GentleRoadModel", "common", "(II)I"⟩
abbrev c_M_joins : ByteArray := prog_13_method_107_code
def y_M_joins : MethodName := ⟨"GentleRoadModel", "joins", "(III)I"⟩
abbrev c_M_spare : ByteArray := prog_13_method_108_code
def y_M_spare : MethodName := ⟨"GentleRoadModel", "spare", "(III)I"⟩
abbrev c_M_stagesFrom : ByteArray := prog_13_method_109_code
def y_M_stagesFrom : MethodName := ⟨"GentleRoadModel", "stagesFrom", "(III)I"⟩
abbrev c_M_stages : ByteArray := prog_13_method_110_code
def y_M_stages : MethodName := ⟨"GentleRoadModel", "stages", "(II)I"⟩
abbrev c_M_image : ByteArray := prog_13_method_111_code
def y_M_image : MethodName := ⟨"GentleRoadModel", "image", "()V"⟩
abbrev c_M_back : ByteArray := prog_13_method_112_code
def y_M_back : MethodName := ⟨"GentleRoadModel", "back", "()Z"⟩
abbrev c_M_count : ByteArray := prog_13_method_113_code
def y_M_count : MethodName := ⟨"GentleRoadModel", "count", "(I)I"⟩
theorem yk_M_thrown : zYv y_M_thrown c_M_thrown 1 (some .int) 0 := ⟨ztc8 111 rfl rfl, ztc8 109 (by decide +kernel) rfl, ztc8 110 (by decide +kernel) rfl, ztc1 14 (by decide +kernel) rfl, by decide +kernel⟩
theorem yk_M_isIn : zYs y_M_isIn c_M_isIn 3 (some .boolean) 3 := ⟨ztc8 126 rfl rfl, ztc8 125 (by decide +kernel) rfl, ztc1 14 (by decide +kernel) rfl, by decide +kernel⟩
theorem yk_M_apart : zYs y_M_apart c_M_apart 2 (some .int) 2 := ⟨ztc9 11 rfl rfl, ztc9 10 (by decide +kernel) rfl, ztc1 14 (by decide +kernel) rfl, by decide +kernel⟩
theorem yk_M_lesser : zYs y_M_lesser c_M_lesser 2 (some .int) 2 := ⟨ztc9 154 rfl rfl, ztc9 153 (by decide +kernel) rfl, ztc1 14 (by decide +kernel) rfl, by decide +kernel⟩
theorem yk_M_places : zYv y_M_places c_M_places 1 (some .int) 0 := ⟨ztc8 123 rfl rfl, ztc8 122 (by decide +kernel) rfl, ztp (q := (y_M_places, 35)) 60 (by decide +kernel), ztc1 14 (by decide +kernel) rfl, by decide +kernel⟩
theorem yk_M_isPlace : zYv y_M_isPlace c_M_isPlace 2 (some .boolean) 1 := ⟨ztc8 119 rfl rfl, ztc8 118 (by decide +kernel) rfl, ztp (q := (y_M_isPlace, 35)) 59 (by decide +kernel), ztc1 14 (by decide +kernel) rfl, by decide +kernel⟩
theorem yk_M_isWet : zYv y_M_isWet c_M_isWet 2 (some .boolean) 1 := ⟨ztc9 23 rfl rfl, ztc9 22 (by decide +kernel) rfl, ztp (q := (y_M_isWet, 35)) 82 (by decide +kernel), ztc1 14 (by decide +kernel) rfl, by decide +kernel⟩
theorem yk_M_beside : zYv y_M_beside c_M_beside 5 (some .int) 2 := ⟨ztc8 134 rfl rfl, ztc8 133 (by decide +kernel) rfl, ztp (q := (y_M_beside, 35)) 62 (by decide +kernel), ztc1 14 (by decide +kernel) rfl, by decide +kernel⟩
theorem yk_M_longOf : zYs y_M_longOf c_M_longOf 1 (some .int) 1 := ⟨ztc9 30 rfl rfl, ztc9 29 (by decide +kernel) rfl, ztc1 14 (by decide +kernel) rfl, by decide +kernel⟩
theorem yk_M_differ : zYv y_M_differ c_M_differ 3 (some .int) 2 := ⟨ztc9 8 rfl rfl, ztc9 7 (by decide +kernel) rfl, ztp (q := (y_M_differ, 35)) 79 (by decide +kernel), ztc1 14 (by decide +kernel) rfl, by decide +kernel⟩
theorem yk_M_isSteep : zYv y_M_isSteep c_M_isSteep 3 (some .boolean) 2 := ⟨ztc9 27 rfl rfl, ztc9 26 (by decide +kernel) rfl, ztp (q := (y_M_isSteep, 35)) 83 (by decide +kernel), ztc1 14 (by decide +kernel) rfl, by decide +kernel⟩
theorem yk_M_isOpen : zYv y_M_isOpen c_M_isOpen 4 (some .boolean) 2 := ⟨ztc9 19 rfl rfl, ztc9 18 (by decide +kernel) rfl, ztp (q := (y_M_isOpen, 35)) 81 (by decide +kernel), ztc1 14 (by decide +kernel) rfl, by decide +kernel⟩
theorem yk_M_canStep : zYv y_M_canStep c_M_canStep 3 (some .boolean) 2 := ⟨ztc9 15 rfl rfl, ztc9 14 (by decide +kernel) rfl, ztp (q := (y_M_canStep, 35)) 80 (by decide +kernel), ztc1 14 (by decide +kernel) rfl, by decide +kernel⟩
theorem yk_M_eighths : zYs y_M_eighths c_M_eighths 3 (some .int) 2 := ⟨ztc9 77 rfl rfl, ztc9 76 (by decide +kernel) rfl, ztc1 14 (by decide +kernel) rfl, by decide +kernel⟩
theorem yk_M_isFlat : zYv y_M_isFlat c_M_isFlat 4 (some .boolean) 1 := ⟨ztc9 4 rfl rfl, ztc9 3 (by decide +kernel) rfl, ztp (q := (y_M_isFlat, 35)) 78 (by decide +kernel), ztc1 14 (by decide +kernel) rfl, by decide +kernel⟩
theorem yk_M_canBend : zYv y_M_canBend c_M_canBend 4 (some .boolean) 3 := ⟨ztc9 74 rfl rfl, ztc9 73 (by decide +kernel) rfl, ztp (q := (y_M_canBend, 35)) 89 (by decide +kernel), ztc1 14 (by decide +kernel) rfl, by decide +kernel⟩
theorem yk_M_bendCost : zYv y_M_bendCost c_M_bendCost 3 (some .int) 2 := ⟨ztc9 101 rfl rfl, ztc9 100 (by decide +kernel) rfl, ztp (q := (y_M_bendCost, 35)) 95 (by decide +kernel), ztc1 14 (by decide +kernel) rfl, by decide +kernel⟩
theorem yk_M_climb : zYv y_M_climb c_M_climb 3 (some .int) 2 := ⟨ztc9 85 rfl rfl, ztc9 84 (by decide +kernel) rfl, ztp (q := (y_M_climb, 35)) 91 (by decide +kernel), ztc1 14 (by decide +kernel) rfl, by decide +kernel⟩
theorem yk_M_isUsed : zYv y_M_isUsed c_M_isUsed 4 (some .boolean) 2 := ⟨ztc9 89 rfl rfl, ztc9 88 (by decide +kernel) rfl, ztp (q := (y_M_isUsed, 35)) 92 (by decide +kernel), ztc1 14 (by decide +kernel) rfl, by decide +kernel⟩
theorem yk_M_stepOf : zYv y_M_stepOf c_M_stepOf 5 (some .int) 3 := ⟨ztc9 81 rfl rfl, ztc9 80 (by decide +kernel) rfl, ztp (q := (y_M_stepOf, 35)) 90 (by decide +kernel), ztc1 14 (by decide +kernel) rfl, by decide +kernel⟩
theorem yk_M_bendOf : zYv y_M_bendOf c_M_bendOf 4 (some .int) 3 := ⟨ztc9 97 rfl rfl, ztc9 96 (by decide +kernel) rfl, ztp (q := (y_M_bendOf, 35)) 94 (by decide +kernel), ztc1 14 (by decide +kernel) rfl, by decide +kernel⟩
theorem yk_M_isLess : zYv y_M_isLess c_M_isLess 4 (some .boolean) 3 := ⟨ztc9 105 rfl rfl, ztc9 104 (by decide +kernel) rfl, ztp (q := (y_M_isLess, 35)) 96 (by decide +kernel), ztc1 14 (by decide +kernel) rfl, by decide +kernel⟩
theorem yk_M_eases : zYv y_M_eases c_M_eases 8 (some .boolean) 3 := ⟨ztc9 70 rfl rfl, ztc9 69 (by decide +kernel) rfl, ztp (q := (y_M_eases, 35)) 88 (by decide +kernel), ztc1 14 (by decide +kernel) rfl, by decide +kernel⟩
theorem yk_M_goesTo : zYv y_M_goesTo c_M_goesTo 6 none 2 := ⟨ztc9 66 rfl rfl, ztc9 65 (by decide +kernel) rfl, ztp (q := (y_M_goesTo, 35)) 87 (by decide +kernel), ztc1 14 (by decide +kernel) rfl, by decide +kernel⟩
theorem yk_M_isWay : zYv y_M_isWay c_M_isWay 13 (some .boolean) 3 := ⟨ztc9 62 rfl rfl, ztc9 61 (by decide +kernel) rfl, ztp (q := (y_M_isWay, 35)) 86 (by decide +kernel), ztc1 14 (by decide +kernel) rfl, by decide +kernel⟩
theorem yk_M_headingOf : zYs y_M_headingOf c_M_headingOf 2 (some .int) 2 := ⟨ztc9 116 rfl rfl, ztc9 115 (by decide +kernel) rfl, ztc1 14 (by decide +kernel) rfl, by decide +kernel⟩
theorem yk_M_heading : zYv y_M_heading c_M_heading 3 (some .int) 2 := ⟨ztc9 113 rfl rfl, ztc9 112 (by decide +kernel) rfl, ztp (q := (y_M_heading, 35)) 98 (by decide +kernel), ztc1 14 (by decide +kernel) rfl, by decide +kernel⟩
theorem yk_M_measure : zYv y_M_measure c_M_measure 6 (some .int) 1 := ⟨ztc9 109 rfl rfl, ztc9 108 (by decide +kernel) rfl, ztp (q := (y_M_measure, 35)) 97 (by decide +kernel), ztc1 14 (by decide +kernel) rfl, by decide +kernel⟩
theorem yk_M_isLesser : zYv y_M_isLesser c_M_isLesser 3 (some .boolean) 2 := ⟨ztc9 182 rfl rfl, ztc9 181 (by decide +kernel) rfl, ztp (q := (y_M_isLesser, 35)) 106 (by decide +kernel), ztc1 14 (by decide +kernel) rfl, by decide +kernel⟩
theorem yk_M_goesFrom : zYv y_M_goesFrom c_M_goesFrom 6 none 1 := ⟨ztc9 178 rfl rfl, ztc9 177 (by decide +kernel) rfl, ztp (q := (y_M_goesFrom, 35)) 105 (by decide +kernel), ztc1 14 (by decide +kernel) rfl, by decide +kernel⟩
theorem yk_M_costAt : zYv y_M_costAt c_M_costAt 4 (some .int) 1 := ⟨ztc9 186 rfl rfl, ztc9 185 (by decide +kernel) rfl, ztp (q := (y_M_costAt, 35)) 107 (by decide +kernel), ztc1 14 (by decide +kernel) rfl, by decide +kernel⟩
theorem yk_M_isThere : zYv y_M_isThere c_M_isThere 3 (some .boolean) 2 := ⟨ztc9 194 rfl rfl, ztc9 193 (by decide +kernel) rfl, ztp (q := (y_M_isThere, 35)) 108 (by decide +kernel), ztc1 14 (by decide +kernel) rfl, by decide +kernel⟩
theorem yk_M_runOf : zYv y_M_runOf c_M_runOf 5 (some .int) 1 := ⟨ztc8 130 rfl rfl, ztc8 129 (by decide +kernel) rfl, ztp (q := (y_M_runOf, 35)) 61 (by decide +kernel), ztc1 14 (by decide +kernel) rfl, by decide +kernel⟩
theorem yk_M_laysCatches : zYv y_M_laysCatches c_M_laysCatches 3 none 0 := ⟨ztc8 138 rfl rfl, ztc8 137 (by decide +kernel) rfl, ztp (q := (y_M_laysCatches, 35)) 63 (by decide +kernel), ztc1 14 (by decide +kernel) rfl, by decide +kernel⟩
theorem yk_M_isEdge : zYv y_M_isEdge c_M_isEdge 4 (some .boolean) 1 := ⟨ztc8 146 rfl rfl, ztc8 145 (by decide +kernel) rfl, ztp (q := (y_M_isEdge, 35)) 65 (by decide +kernel), ztc1 14 (by decide +kernel) rfl, by decide +kernel⟩
theorem yk_M_sinks : zYv y_M_sinks c_M_sinks 6 (some .boolean) 1 := ⟨ztc8 151 rfl rfl, ztc8 150 (by decide +kernel) rfl, ztp (q := (y_M_sinks, 35)) 66 (by decide +kernel), ztc1 14 (by decide +kernel) rfl, by decide +kernel⟩
theorem yk_M_spillOf : zYv y_M_spillOf c_M_spillOf 4 (some .int) 1 := ⟨ztc8 142 rfl rfl, ztc8 141 (by decide +kernel) rfl, ztp (q := (y_M_spillOf, 35)) 64 (by decide +kernel), ztc1 14 (by decide +kernel) rfl, by decide +kernel⟩
theorem yk_M_water : zYv y_M_water c_M_water 3 (some .int) 2 := ⟨ztc8 115 rfl rfl, ztc8 113 (by decide +kernel) rfl, ztc8 114 (by decide +kernel) rfl, ztc1 14 (by decide +kernel) rfl, by decide +kernel⟩
theorem yk_M_bridges : zYv y_M_bridges c_M_bridges 7 (some .int) 2 := ⟨ztc8 155 rfl rfl, ztc8 153 (by decide +kernel) rfl, ztc8 154 (by decide +kernel) rfl, ztc1 14 (by decide +kernel) rfl, by decide +kernel⟩
theorem yk_M_feed : zYv y_M_feed c_M_feed 8 (some .int) 5 := ⟨ztc8 170 rfl rfl, ztc8 168 (by decide +kernel) rfl, ztc8 169 (by decide +kernel) rfl, ztc1 14 (by decide +kernel) rfl, by decide +kernel⟩
theorem yk_M_end : zYv y_M_end c_M_end 2 (some .boolean) 1 := ⟨ztc8 174 rfl rfl, ztc8 172 (by decide +kernel) rfl, ztc8 173 (by decide +kernel) rfl, ztc1 14 (by decide +kernel) rfl, by decide +kernel⟩
theorem yk_M_here : zYv y_M_here c_M_here 1 (some .int) 0 := ⟨ztc8 191 rfl rfl, ztc8 190 (by decide +kernel) rfl, ztp (q := (y_M_here, 35)) 71 (by decide +kernel), ztc1 14 (by decide +kernel) rfl, by decide +kernel⟩
theorem yk_M_wrong : zYv y_M_wrong c_M_wrong 2 none 1 := ⟨ztc8 197 rfl rfl, ztc8 196 (by decide +kernel) rfl, ztp (q := (y_M_wrong, 35)) 72 (by decide +kernel), ztc1 14 (by decide +kernel) rfl, by decide +kernel⟩
theorem yk_M_has : zYv y_M_has c_M_has 4 (some .boolean) 1 := ⟨ztc8 187 rfl rfl, ztc8 186 (by decide +kernel) rfl, ztp (q := (y_M_has, 35)) 70 (by decide +kernel), ztc1 14 (by decide +kernel) rfl, by decide +kernel⟩
theorem yk_M_expects : zYv y_M_expects c_M_expects 2 none 1 := ⟨ztc8 183 rfl rfl, ztc8 182 (by decide +kernel) rfl, ztp (q := (y_M_expects, 35)) 69 (by decide +kernel), ztc1 14 (by decide +kernel) rfl, by decide +kernel⟩
theorem yk_M_number : zYv y_M_number c_M_number 5 (some .int) 2 := ⟨ztc8 201 rfl rfl, ztc8 200 (by decide +kernel) rfl, ztp (q := (y_M_number, 35)) 73 (by decide +kernel), ztc1 14 (by decide +kernel) rfl, by decide +kernel⟩
theorem yk_M_mustSign : zYv y_M_mustSign c_M_mustSign 1 none 0 := ⟨ztc8 209 rfl rfl, ztc8 208 (by decide +kernel) rfl, ztp (q := (y_M_mustSign, 35)) 75 (by decide +kernel), ztc1 14 (by decide +kernel) rfl, by decide +kernel⟩
theorem yk_M_heights : zYv y_M_heights c_M_heights 4 none 0 := ⟨ztc8 205 rfl rfl, ztc8 204 (by decide +kernel) rfl, ztp (q := (y_M_heights, 35)) 74 (by decide +kernel), ztc1 14 (by decide +kernel) rfl, by decide +kernel⟩
theorem yk_M_termHere : zYv y_M_termHere c_M_termHere 3 (some .int) 0 := ⟨ztc8 219 rfl rfl, ztc8 218 (by decide +kernel) rfl, ztp (q := (y_M_termHere, 35)) 77 (by decide +kernel), ztc1 14 (by decide +kernel) rfl, by decide +kernel⟩
theorem yk_M_moreLine : zYv y_M_moreLine c_M_moreLine 4 none 0 := ⟨ztc8 214 rfl rfl, ztc8 213 (by decide +kernel) rfl, ztp (q := (y_M_moreLine, 35)) 76 (by decide +kernel), ztc1 14 (by decide +kernel) rfl, by decide +kernel⟩
theorem yk_M_land : zYv y_M_land c_M_land 4 (some .int) 0 := ⟨ztc8 178 rfl rfl, ztc8 176 (by decide +kernel) rfl, ztc8 177 (by decide +kernel) rfl, ztc1 14 (by decide +kernel) rfl, by decide +kernel⟩
theorem yk_M_fault : zYv y_M_fault c_M_fault 1 (some .int) 0 := ⟨ztc8 236 rfl rfl, ztc8 234 (by decide +kernel) rfl, ztc8 235 (by decide +kernel) rfl, ztc1 14 (by decide +kernel) rfl, by decide +kernel⟩
theorem yk_M_place : zYv y_M_place c_M_place 5 (some .int) 2 := ⟨ztc9 0 rfl rfl, ztc8 238 (by decide +kernel) rfl, ztc8 239 (by decide +kernel) rfl, ztc1 14 (by decide +kernel) rfl, by decide +kernel⟩
theorem yk_M_term : zYv y_M_term c_M_term 2 (some .int) 1 := ⟨ztc9 34 rfl rfl, ztc9 32 (by decide +kernel) rfl, ztc9 33 (by decide +kernel) rfl, ztc1 14 (by decide +kernel) rfl, by decide +kernel⟩
theorem yk_M_remembers : zYv y_M_remembers c_M_remembers 2 none 0 := ⟨ztc9 42 rfl rfl, ztc9 41 (by decide +kernel) rfl, ztp (q := (y_M_remembers, 35)) 84 (by decide +kernel), ztc1 14 (by decide +kernel) rfl, by decide +kernel⟩
theorem yk_M_tune : zYv y_M_tune c_M_tune 4 (some .int) 2 := ⟨ztc9 38 rfl rfl, ztc9 36 (by decide +kernel) rfl, ztc9 37 (by decide +kernel) rfl, ztc1 14 (by decide +kernel) rfl, by decide +kernel⟩
theorem yk_M_raise : zYv y_M_raise c_M_raise 3 (some .int) 2 := ⟨ztc9 46 rfl rfl, ztc9 44 (by decide +kernel) rfl, ztc9 45 (by decide +kernel) rfl, ztc1 14 (by decide +kernel) rfl, by decide +kernel⟩
theorem yk_M_flood : zYv y_M_flood c_M_flood 4 (some .boolean) 2 := ⟨ztc9 50 rfl rfl, ztc9 48 (by decide +kernel) rfl, ztc9 49 (by decide +kernel) rfl, ztc1 14 (by decide +kernel) rfl, by decide +kernel⟩
theorem yk_M_isRoad : zYs y_M_isRoad c_M_isRoad 1 (some .boolean) 1 := ⟨ztc8 158 rfl rfl, ztc8 157 (by decide +kernel) rfl, ztc1 14 (by decide +kernel) rfl, by decide +kernel⟩
theorem yk_M_many : zYv y_M_many c_M_many 2 (some .int) 1 := ⟨ztc8 162 rfl rfl, ztc8 161 (by decide +kernel) rfl, ztp (q := (y_M_many, 35)) 67 (by decide +kernel), ztc1 14 (by decide +kernel) rfl, by decide +kernel⟩
theorem yk_M_placeAt : zYv y_M_placeAt c_M_placeAt 3 (some .int) 2 := ⟨ztc8 166 rfl rfl, ztc8 165 (by decide +kernel) rfl, ztp (q := (y_M_placeAt, 35)) 68 (by decide +kernel), ztc1 14 (by decide +kernel) rfl, by decide +kernel⟩
theorem yk_M_offsetAt : zYv y_M_offsetAt c_M_offsetAt 3 (some .int) 2 := ⟨ztc10 26 rfl rfl, ztc10 25 (by decide +kernel) rfl, ztp (q := (y_M_offsetAt, 35)) 121 (by decide +kernel), ztc1 14 (by decide +kernel) rfl, by decide +kernel⟩
theorem yk_M_two : zYv y_M_two c_M_two 3 (some .int) 2 := ⟨ztc9 58 rfl rfl, ztc9 57 (by decide +kernel) rfl, ztp (q := (y_M_two, 35)) 85 (by decide +kernel), ztc1 14 (by decide +kernel) rfl, by decide +kernel⟩
theorem yk_M_build : zYv y_M_build c_M_build 6 (some .int) 3 := ⟨ztc9 54 rfl rfl, ztc9 52 (by decide +kernel) rfl, ztc9 53 (by decide +kernel) rfl, ztc1 14 (by decide +kernel) rfl, by decide +kernel⟩
theorem yk_M_drop : zYv y_M_drop c_M_drop 4 (some .int) 1 := ⟨ztc9 120 rfl rfl, ztc9 118 (by decide +kernel) rfl, ztc9 119 (by decide +kernel) rfl, ztc1 14 (by decide +kernel) rfl, by decide +kernel⟩
theorem yk_M_undo : zYv y_M_undo c_M_undo 2 (some .int) 0 := ⟨ztc9 124 rfl rfl, ztc9 122 (by decide +kernel) rfl, ztc9 123 (by decide +kernel) rfl, ztc1 14 (by decide +kernel) rfl, by decide +kernel⟩
theorem yk_M_earthOf : zYv y_M_earthOf c_M_earthOf 2 (some .int) 1 := ⟨ztc9 151 rfl rfl, ztc9 150 (by decide +kernel) rfl, ztp (q := (y_M_earthOf, 35)) 103 (by decide +kernel), ztc1 14 (by decide +kernel) rfl, by decide +kernel⟩
theorem yk_M_stepHeading : zYv y_M_stepHeading c_M_stepHeading 3 (some .int) 2 := ⟨ztc9 144 rfl rfl, ztc9 143 (by decide +kernel) rfl, ztp (q := (y_M_stepHeading, 35)) 102 (by decide +kernel), ztc1 14 (by decide +kernel) rfl, by decide +kernel⟩
theorem yk_M_isRuled : zYv y_M_isRuled c_M_isRuled 7 (some .boolean) 5 := ⟨ztc9 140 rfl rfl, ztc9 139 (by decide +kernel) rfl, ztp (q := (y_M_isRuled, 35)) 101 (by decide +kernel), ztc1 14 (by decide +kernel) rfl, by decide +kernel⟩
theorem yk_M_cell : zYs y_M_cell c_M_cell 3 (some .int) 3 := ⟨ztc9 147 rfl rfl, ztc9 146 (by decide +kernel) rfl, ztc1 14 (by decide +kernel) rfl, by decide +kernel⟩
theorem yk_M_laysEarth : zYv y_M_laysEarth c_M_laysEarth 11 none 2 := ⟨ztc9 136 rfl rfl, ztc9 135 (by decide +kernel) rfl, ztp (q := (y_M_laysEarth, 35)) 100 (by decide +kernel), ztc1 14 (by decide +kernel) rfl, by decide +kernel⟩
theorem yk_M_grading : zYv y_M_grading c_M_grading 6 (some .int) 2 := ⟨ztc9 132 rfl rfl, ztc9 131 (by decide +kernel) rfl, ztp (q := (y_M_grading, 35)) 99 (by decide +kernel), ztc1 14 (by decide +kernel) rfl, by decide +kernel⟩
theorem yk_M_chooses : zYv y_M_chooses c_M_chooses 8 none 3 := ⟨ztc9 158 rfl rfl, ztc9 157 (by decide +kernel) rfl, ztp (q := (y_M_chooses, 35)) 104 (by decide +kernel), ztc1 14 (by decide +kernel) rfl, by decide +kernel⟩
theorem yk_M_level : zYv y_M_level c_M_level 5 (some .int) 2 := ⟨ztc9 128 rfl rfl, ztc9 126 (by decide +kernel) rfl, ztc9 127 (by decide +kernel) rfl, ztc1 14 (by decide +kernel) rfl, by decide +kernel⟩
theorem yk_M_earth : zYv y_M_earth c_M_earth 4 (some .int) 2 := ⟨ztc9 162 rfl rfl, ztc9 160 (by decide +kernel) rfl, ztc9 161 (by decide +kernel) rfl, ztc1 14 (by decide +kernel) rfl, by decide +kernel⟩
theorem yk_M_ruling : zYv y_M_ruling c_M_ruling 5 (some .int) 1 := ⟨ztc10 38 rfl rfl, ztc10 37 (by decide +kernel) rfl, ztp (q := (y_M_ruling, 35)) 124 (by decide +kernel), ztc1 14 (by decide +kernel) rfl, by decide +kernel⟩
theorem yk_M_best : zYv y_M_best c_M_best 4 (some .int) 3 := ⟨ztc9 166 rfl rfl, ztc9 164 (by decide +kernel) rfl, ztc9 165 (by decide +kernel) rfl, ztc1 14 (by decide +kernel) rfl, by decide +kernel⟩
theorem yk_M_along : zYv y_M_along c_M_along 5 (some .int) 4 := ⟨ztc9 170 rfl rfl, ztc9 168 (by decide +kernel) rfl, ztc9 169 (by decide +kernel) rfl, ztc1 14 (by decide +kernel) rfl, by decide +kernel⟩
theorem yk_M_reach : zYv y_M_reach c_M_reach 4 (some .int) 1 := ⟨ztc9 174 rfl rfl, ztc9 172 (by decide +kernel) rfl, ztc9 173 (by decide +kernel) rfl, ztc1 14 (by decide +kernel) rfl, by decide +kernel⟩
theorem yk_M_grade : zYv y_M_grade c_M_grade 5 (some .int) 2 := ⟨ztc9 190 rfl rfl, ztc9 188 (by decide +kernel) rfl, ztc9 189 (by decide +kernel) rfl, ztc1 14 (by decide +kernel) rfl, by decide +kernel⟩
theorem yk_M_gate : zYv y_M_gate c_M_gate 5 (some .int) 2 := ⟨ztc9 198 rfl rfl, ztc9 196 (by decide +kernel) rfl, ztc9 197 (by decide +kernel) rfl, ztc1 14 (by decide +kernel) rfl, by decide +kernel⟩
theorem yk_M_isBorne : zYv y_M_isBorne c_M_isBorne 4 (some .boolean) 3 := ⟨ztc9 210 rfl rfl, ztc9 209 (by decide +kernel) rfl, ztp (q := (y_M_isBorne, 35)) 110 (by decide +kernel), ztc1 14 (by decide +kernel) rfl, by decide +kernel⟩
theorem yk_M_bores : zYv y_M_bores c_M_bores 10 (some .boolean) 5 := ⟨ztc9 206 rfl rfl, ztc9 205 (by decide +kernel) rfl, ztp (q := (y_M_bores, 35)) 109 (by decide +kernel), ztc1 14 (by decide +kernel) rfl, by decide +kernel⟩
theorem yk_M_bored : zYv y_M_bored c_M_bored 7 (some .int) 3 := ⟨ztc9 202 rfl rfl, ztc9 200 (by decide +kernel) rfl, ztc9 201 (by decide +kernel) rfl, ztc1 14 (by decide +kernel) rfl, by decide +kernel⟩
theorem yk_M_addsFrom : zYv y_M_addsFrom c_M_addsFrom 4 none 1 := ⟨ztc9 218 rfl rfl, ztc9 217 (by decide +kernel) rfl, ztp (q := (y_M_addsFrom, 35)) 111 (by decide +kernel), ztc1 14 (by decide +kernel) rfl, by decide +kernel⟩
theorem yk_M_meet : zYv y_M_meet c_M_meet 7 (some .int) 4 := ⟨ztc9 214 rfl rfl, ztc9 212 (by decide +kernel) rfl, ztc9 213 (by decide +kernel) rfl, ztc1 14 (by decide +kernel) rfl, by decide +kernel⟩
theorem yk_M_goesRound : zYv y_M_goesRound c_M_goesRound 6 none 3 := ⟨ztc9 230 rfl rfl, ztc9 229 (by decide +kernel) rfl, ztp (q := (y_M_goesRound, 35)) 113 (by decide +kernel), ztc1 14 (by decide +kernel) rfl, by decide +kernel⟩
theorem yk_M_areStops : zYv y_M_areStops c_M_areStops 3 (some .boolean) 0 := ⟨ztc9 226 rfl rfl, ztc9 225 (by decide +kernel) rfl, ztp (q := (y_M_areStops, 35)) 112 (by decide +kernel), ztc1 14 (by decide +kernel) rfl, by decide +kernel⟩
theorem yk_M_round : zYv y_M_round c_M_round 3 (some .int) 0 := ⟨ztc9 222 rfl rfl, ztc9 220 (by decide +kernel) rfl, ztc9 221 (by decide +kernel) rfl, ztc1 14 (by decide +kernel) rfl, by decide +kernel⟩
theorem yk_M_laysPath : zYv y_M_laysPath c_M_laysPath 3 none 1 := ⟨ztc9 238 rfl rfl, ztc9 237 (by decide +kernel) rfl, ztp (q := (y_M_laysPath, 35)) 114 (by decide +kernel), ztc1 14 (by decide +kernel) rfl, by decide +kernel⟩
theorem yk_M_hairpins : zYv y_M_hairpins c_M_hairpins 4 (some .int) 1 := ⟨ztc10 2 rfl rfl, ztc10 1 (by decide +kernel) rfl, ztp (q := (y_M_hairpins, 35)) 115 (by decide +kernel), ztc1 14 (by decide +kernel) rfl, by decide +kernel⟩
theorem yk_M_brokenStep : zYv y_M_brokenStep c_M_brokenStep 3 (some .int) 1 := ⟨ztc10 6 rfl rfl, ztc10 5 (by decide +kernel) rfl, ztp (q := (y_M_brokenStep, 35)) 116 (by decide +kernel), ztc1 14 (by decide +kernel) rfl, by decide +kernel⟩
theorem yk_M_brokenBend : zYv y_M_brokenBend c_M_brokenBend 3 (some .int) 1 := ⟨ztc10 10 rfl rfl, ztc10 9 (by decide +kernel) rfl, ztp (q := (y_M_brokenBend, 35)) 117 (by decide +kernel), ztc1 14 (by decide +kernel) rfl, by decide +kernel⟩
theorem yk_M_levels : zYv y_M_levels c_M_levels 3 (some .int) 2 := ⟨ztc10 18 rfl rfl, ztc10 17 (by decide +kernel) rfl, ztp (q := (y_M_levels, 35)) 119 (by decide +kernel), ztc1 14 (by decide +kernel) rfl, by decide +kernel⟩
theorem yk_M_steepest : zYv y_M_steepest c_M_steepest 4 (some .int) 1 := ⟨ztc10 14 rfl rfl, ztc10 13 (by decide +kernel) rfl, ztp (q := (y_M_steepest, 35)) 118 (by decide +kernel), ztc1 14 (by decide +kernel) rfl, by decide +kernel⟩
theorem yk_M_earthNow : zYv y_M_earthNow c_M_earthNow 4 (some .int) 1 := ⟨ztc10 30 rfl rfl, ztc10 29 (by decide +kernel) rfl, ztp (q := (y_M_earthNow, 35)) 122 (by decide +kernel), ztc1 14 (by decide +kernel) rfl, by decide +kernel⟩
theorem yk_M_offsets : zYv y_M_offsets c_M_offsets 4 (some .int) 1 := ⟨ztc10 34 rfl rfl, ztc10 33 (by decide +kernel) rfl, ztp (q := (y_M_offsets, 35)) 123 (by decide +kernel), ztc1 14 (by decide +kernel) rfl, by decide +kernel⟩
theorem yk_M_levelAt : zYv y_M_levelAt c_M_levelAt 3 (some .int) 2 := ⟨ztc10 22 rfl rfl, ztc10 21 (by decide +kernel) rfl, ztp (q := (y_M_levelAt, 35)) 120 (by decide +kernel), ztc1 14 (by decide +kernel) rfl, by decide +kernel⟩
theorem yk_M_highest : zYv y_M_highest c_M_highest 6 (some .int) 2 := ⟨ztc10 42 rfl rfl, ztc10 41 (by decide +kernel) rfl, ztp (q := (y_M_highest, 35)) 125 (by decide +kernel), ztc1 14 (by decide +kernel) rfl, by decide +kernel⟩
theorem yk_M_straight : zYv y_M_straight c_M_straight 5 (some .int) 1 := ⟨ztc10 46 rfl rfl, ztc10 45 (by decide +kernel) rfl, ztp (q := (y_M_straight, 35)) 126 (by decide +kernel), ztc1 14 (by decide +kernel) rfl, by decide +kernel⟩
theorem yk_M_descent : zYv y_M_descent c_M_descent 4 (some .int) 1 := ⟨ztc10 50 rfl rfl, ztc10 49 (by decide +kernel) rfl, ztp (q := (y_M_descent, 35)) 127 (by decide +kernel), ztc1 14 (by decide +kernel) rfl, by decide +kernel⟩
theorem yk_M_road : zYv y_M_road c_M_road 3 (some .int) 2 := ⟨ztc9 234 rfl rfl, ztc9 232 (by decide +kernel) rfl, ztc9 233 (by decide +kernel) rfl, ztc1 14 (by decide +kernel) rfl, by decide +kernel⟩
theorem yk_M_at : zYv y_M_at c_M_at 5 (some .int) 3 := ⟨ztc10 54 rfl rfl, ztc10 52 (by decide +kernel) rfl, ztc10 53 (by decide +kernel) rfl, ztc1 14 (by decide +kernel) rfl, by decide +kernel⟩
theorem yk_M_hasStep : zYv y_M_hasStep c_M_hasStep 8 (some .boolean) 4 := ⟨ztc9 93 rfl rfl, ztc9 92 (by decide +kernel) rfl, ztp (q := (y_M_hasStep, 35)) 93 (by decide +kernel), ztc1 14 (by decide +kernel) rfl, by decide +kernel⟩
theorem yk_M_common : zYv y_M_common c_M_common 7 (some .int) 2 := ⟨ztc10 58 rfl rfl, ztc10 56 (by decide +kernel) rfl, ztc10 57 (by decide +kernel) rfl, ztc1 14 (by decide +kernel) rfl, by decide +kernel⟩
theorem yk_M_joins : zYv y_M_joins c_M_joins 9 (some .int) 3 := ⟨ztc10 62 rfl rfl, ztc10 60 (by decide +kernel) rfl, ztc10 61 (by decide +kernel) rfl, ztc1 14 (by decide +kernel) rfl, by decide +kernel⟩
theorem yk_M_spare : zYv y_M_spare c_M_spare 9 (some .int) 3 := ⟨ztc10 66 rfl rfl, ztc10 64 (by decide +kernel) rfl, ztc10 65 (by decide +kernel) rfl, ztc1 14 (by decide +kernel) rfl, by decide +kernel⟩
theorem yk_M_stagesFrom : zYv y_M_stagesFrom c_M_stagesFrom 10 (some .int) 3 := ⟨ztc10 74 rfl rfl, ztc10 73 (by decide +kernel) rfl, ztp (q := (y_M_stagesFrom, 35)) 128 (by decide +kernel), ztc1 14 (by decide +kernel) rfl, by decide +kernel⟩
theorem yk_M_stages : zYv y_M_stages c_M_stages 4 (some .int) 2 := ⟨ztc10 70 rfl rfl, ztc10 68 (by decide +kernel) rfl, ztc10 69 (by decide +kernel) rfl, ztc1 14 (by decide +kernel) rfl, by decide +kernel⟩
theorem yk_M_image : zYv y_M_image c_M_image 2 none 0 := ⟨ztc10 78 rfl rfl, ztc10 76 (by decide +kernel) rfl, ztc10 77 (by decide +kernel) rfl, ztc1 14 (by decide +kernel) rfl, by decide +kernel⟩
theorem yk_M_back : zYv y_M_back c_M_back 2 (some .boolean) 0 := ⟨ztc10 82 rfl rfl, ztc10 80 (by decide +kernel) rfl, ztc10 81 (by decide +kernel) rfl, ztc1 14 (by decide +kernel) rfl, by decide +kernel⟩
theorem yk_M_count : zYv y_M_count c_M_count 4 (some .int) 1 := ⟨ztc10 86 rfl rfl, ztc10 84 (by decide +kernel) rfl, ztc10 85 (by decide +kernel) rfl, ztc1 14 (by decide +kernel) rfl, by decide +kernel⟩
