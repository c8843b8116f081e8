section
variable {Ω : zO} {Γ : zM} {R : Room} {nL k n : Nat} {Q : State → Prop} {ad : Nat → Nat} {σ : zS} {pc : Nat} {lv : List (Nat × Value)} {st : List Value} {cc : ByteArray} {a : Int}
theorem fl_T_9 : Cond.fieldLink "GentleRoad$Tape" 9 (TX7 0).1 (TX7 0).2.1 (TX7 0).2.2.1 ∈ zT := ztc1 47 (by decide +kernel) rfl
theorem fl_T_13 : Cond.fieldLink "GentleRoad$Tape" 13 (TX7 1).1 (TX7 1).2.1 (TX7 1).2.2.1 ∈ zT := ztc1 48 (by decide +kernel) rfl
theorem pf_T_13 (cx : zC Ω Γ cc nL "GentleRoad$Tape") (ha : zR a) (hd : decode cc pc = .ok (.putfield 13, 3)) (h : zV Ω Γ R nL Q k n zLy ad (zU σ 1 1 a) (pc + 3) lv st) : zV Ω Γ R nL Q k n zLy ad σ pc lv (.int (zI a) :: .ref (ad 1) :: st) := v_puti cx 1 tyX7 tyX7_ok nmX7 zl_1 rfl rfl (by decide) inX7 fl_T_13 rfl (tyX7_ok 1 (by decide)) rfl rfl ha hd h
theorem gf_T_13 (cx : zC Ω Γ cc nL "GentleRoad$Tape") (hd : decode cc pc = .ok (.getfield 13, 3)) (h : zR (σ 1 1) → zV Ω Γ R nL Q k n zLy ad σ (pc + 3) lv (.int (zI (σ 1 1)) :: st)) : zV Ω Γ R nL Q k n zLy ad σ pc lv (.ref (ad 1) :: st) := v_geti cx 1 zl_1 rfl rfl (by decide) inX7 fl_T_13 hd h
theorem gf_T_9 (cx : zC Ω Γ cc nL "GentleRoad$Tape") (hd : decode cc pc = .ok (.getfield 9, 3)) (h : zV Ω Γ R nL Q k n zLy ad σ (pc + 3) lv (.ref (ad 2) :: st)) : zV Ω Γ R nL Q k n zLy ad σ pc lv (.ref (ad 1) :: st) := v_getr cx 0 zl_1 rfl rfl (by decide) inX7 fl_T_9 hd h
end
section
variable {Ω : zO} {Γ : zM} {R : Room} {nL k n : Nat} {Q : State → Prop} {ad : Nat → Nat} {σ : zS} {pc : Nat} {lv : List (Nat × Value)} {st : List Value} {cc : ByteArray} {a : Int}
theorem fl_L_11 : Cond.fieldLink "GentleRoad$Land" 11 (TX2 0).1 (TX2 0).2.1 (TX2 0).2.2.1 ∈ zT := ztc1 69 (by decide +kernel) rfl
theorem fl_L_15 : Cond.fieldLink "GentleRoad$Land" 15 (TX2 1).1 (TX2 1).2.1 (TX2 1).2.2.1 ∈ zT := ztc1 70 (by decide +kernel) rfl
theorem gf_L_15 (cx : zC Ω Γ cc nL "GentleRoad$Land") (hd : decode cc pc = .ok (.getfield 15, 3)) (h : zV Ω Γ R nL Q k n zLy ad σ (pc + 3) lv (.ref (ad 5) :: st)) : zV Ω Γ R nL Q k n zLy ad σ pc lv (.ref (ad 3) :: st) := v_getr cx 1 zl_3 rfl rfl (by decide) inX2 fl_L_15 hd h
theorem gf_L_11 (cx : zC Ω Γ cc nL "GentleRoad$Land") (hd : decode cc pc = .ok (.getfield 11, 3)) (h : zV Ω Γ R nL Q k n zLy ad σ (pc + 3) lv (.ref (ad 4) :: st)) : zV Ω Γ R nL Q k n zLy ad σ pc lv (.ref (ad 3) :: st) := v_getr cx 0 zl_3 rfl rfl (by decide) inX2 fl_L_11 hd h
theorem lk_L_33 : Cond.methodLink "GentleRoad$Land" 33 y_L_layOut ∈ zT := ztc2 133 (by decide +kernel) rfl
theorem lk_L_36 : Cond.methodLink "GentleRoad$Land" 36 y_L_deep ∈ zT := ztc2 137 (by decide +kernel) rfl
theorem lk_L_40 : Cond.methodLink "GentleRoad$Land" 40 y_L_wide ∈ zT := ztc2 141 (by decide +kernel) rfl
theorem lk_L_43 : Cond.methodLink "GentleRoad$Land" 43 y_L_layOutPlace ∈ zT := ztc2 145 (by decide +kernel) rfl
theorem lk_L_53 : Cond.methodLink "GentleRoad$Land" 53 y_L_places ∈ zT := ztc2 167 (by decide +kernel) rfl
theorem lk_L_56 : Cond.methodLink "GentleRoad$Land" 56 y_L_roadSize ∈ zT := ztc2 179 (by decide +kernel) rfl
theorem lk_L_63 : Cond.methodLink "GentleRoad$Land" 63 y_L_clearRoad ∈ zT := ztc6 11 (by decide +kernel) rfl
theorem lk_L_67 : Cond.methodLink "GentleRoad$Land" 67 y_L_isBuilt ∈ zT := ztc2 175 (by decide +kernel) rfl
theorem lk_L_71 : Cond.methodLink "GentleRoad$Land" 71 y_L_roadPlace ∈ zT := ztc4 121 (by decide +kernel) rfl
theorem lk_L_75 : Cond.methodLink "GentleRoad$Land" 75 y_L_headingTo ∈ zT := ztc4 125 (by decide +kernel) rfl
theorem lk_L_78 : Cond.methodLink "GentleRoad$Land" 78 y_L_besideOf ∈ zT := ztc3 226 (by decide +kernel) rfl
theorem lk_L_81 : Cond.methodLink "GentleRoad$Land" 81 y_L_isWet ∈ zT := ztc4 7 (by decide +kernel) rfl
theorem lk_L_84 : Cond.methodLink "GentleRoad$Land" 84 y_L_differ ∈ zT := ztc3 227 (by decide +kernel) rfl
theorem ln_L_87 : Cond.methodLinkNest "GentleRoad$Land" 87 y_R_longOf "GentleRoad" ∈ zNw := List.mem_of_getElem? (i := 15) rfl
theorem lk_L_90 : Cond.methodLink "GentleRoad$Land" 90 y_L_isOpen ∈ zT := ztc4 3 (by decide +kernel) rfl
theorem lk_L_94 : Cond.methodLink "GentleRoad$Land" 94 y_L_value ∈ zT := ztc3 231 (by decide +kernel) rfl
theorem lk_L_97 : Cond.methodLink "GentleRoad$Land" 97 y_L_isSteep ∈ zT := ztc4 8 (by decide +kernel) rfl
theorem lk_L_101 : Cond.methodLink "GentleRoad$Land" 101 y_L_canStep ∈ zT := ztc3 239 (by decide +kernel) rfl
end
section
variable {Ω : zO} {Γ : zM} {R : Room} {nL k n : Nat} {Q : State → Prop} {ad : Nat → Nat} {σ : zS} {pc : Nat} {lv : List (Nat × Value)} {st : List Value} {cc : ByteArray} {a : Int}
theorem fl_X_9 : Cond.fieldLink "GentleRoad$Text" 9 (TX8 0).1 (TX8 0).2.1 (TX8 0).2.2.1 ∈ zT := ztc1 82 (by decide +kernel) rfl
theorem fl_X_17 : Cond.fieldLink "GentleRoad$Text" 17 (TX8 1).1 (TX8 1).2.1 (TX8 1).2.2.1 ∈ zT := ztc1 83 (by decide +kernel) rfl
theorem fl_X_21 : Cond.fieldLink "GentleRoad$Text" 21 (TX8 2).1 (TX8 2).2.1 (TX8 2).2.2.1 ∈ zT := ztc1 84 (by decide +kernel) rfl
theorem gf_X_17 (cx : zC Ω Γ cc nL "GentleRoad$Text") (hd : decode cc pc = .ok (.getfield 17, 3)) (h : zV Ω Γ R nL Q k n zLy ad σ (pc + 3) lv (.ref (ad 7) :: st)) : zV Ω Γ R nL Q k n zLy ad σ pc lv (.ref (ad 6) :: st) := v_getr cx 1 zl_6 rfl rfl (by decide) inX8 fl_X_17 hd h
theorem gf_X_9 (cx : zC Ω Γ cc nL "GentleRoad$Text") (hd : decode cc pc = .ok (.getfield 9, 3)) (h : zV Ω Γ R nL Q k n zLy ad σ (pc + 3) lv (.ref (ad 1) :: st)) : zV Ω Γ R nL Q k n zLy ad σ pc lv (.ref (ad 6) :: st) := v_getr cx 0 zl_6 rfl rfl (by decide) inX8 fl_X_9 hd h
theorem lk_X_25 : Cond.methodLink "GentleRoad$Text" 25 y_T_size ∈ zT := ztc2 216 (by decide +kernel) rfl
theorem fl_X_31 : Cond.fieldLink "GentleRoad$Text" 31 (TX8 3).1 (TX8 3).2.1 (TX8 3).2.2.1 ∈ zT := ztc1 85 (by decide +kernel) rfl
theorem pf_X_31 (cx : zC Ω Γ cc nL "GentleRoad$Text") (ha : zR a) (hd : decode cc pc = .ok (.putfield 31, 3)) (h : zV Ω Γ R nL Q k n zLy ad (zU σ 6 3 a) (pc + 3) lv st) : zV Ω Γ R nL Q k n zLy ad σ pc lv (.int (zI a) :: .ref (ad 6) :: st) := v_puti cx 3 tyX8 tyX8_ok nmX8 zl_6 rfl rfl (by decide) inX8 fl_X_31 rfl (tyX8_ok 3 (by decide)) rfl rfl ha hd h
theorem fl_X_34 : Cond.fieldLink "GentleRoad$Text" 34 (TX8 4).1 (TX8 4).2.1 (TX8 4).2.2.1 ∈ zT := ztc1 86 (by decide +kernel) rfl
theorem pf_X_34 (cx : zC Ω Γ cc nL "GentleRoad$Text") (ha : zR a) (hd : decode cc pc = .ok (.putfield 34, 3)) (h : zV Ω Γ R nL Q k n zLy ad (zU σ 6 4 a) (pc + 3) lv st) : zV Ω Γ R nL Q k n zLy ad σ pc lv (.int (zI a) :: .ref (ad 6) :: st) := v_puti cx 4 tyX8 tyX8_ok nmX8 zl_6 rfl rfl (by decide) inX8 fl_X_34 rfl (tyX8_ok 4 (by decide)) rfl rfl ha hd h
theorem gf_X_21 (cx : zC Ω Γ cc nL "GentleRoad$Text") (hd : decode cc pc = .ok (.getfield 21, 3)) (h : zV Ω Γ R nL Q k n zLy ad σ (pc + 3) lv (.ref (ad 8) :: st)) : zV Ω Γ R nL Q k n zLy ad σ pc lv (.ref (ad 6) :: st) := v_getr cx 2 zl_6 rfl rfl (by decide) inX8 fl_X_21 hd h
theorem lk_X_52 : Cond.methodLink "GentleRoad$Text" 52 y_X_readSize ∈ zT := ztc2 220 (by decide +kernel) rfl
theorem lk_X_56 : Cond.methodLink "GentleRoad$Text" 56 y_X_readRows ∈ zT := ztc3 53 (by decide +kernel) rfl
theorem lk_X_59 : Cond.methodLink "GentleRoad$Text" 59 y_X_readClauses ∈ zT := ztc3 62 (by decide +kernel) rfl
theorem fl_X_62 : Cond.fieldLink "GentleRoad$Text" 62 (TX8 5).1 (TX8 5).2.1 (TX8 5).2.2.1 ∈ zT := ztc1 87 (by decide +kernel) rfl
theorem gf_X_62 (cx : zC Ω Γ cc nL "GentleRoad$Text") (hd : decode cc pc = .ok (.getfield 62, 3)) (h : zR (σ 6 5) → zV Ω Γ R nL Q k n zLy ad σ (pc + 3) lv (.int (zI (σ 6 5)) :: st)) : zV Ω Γ R nL Q k n zLy ad σ pc lv (.ref (ad 6) :: st) := v_geti cx 5 zl_6 rfl rfl (by decide) inX8 fl_X_62 hd h
theorem lk_X_67 : Cond.methodLink "GentleRoad$Text" 67 y_X_readWord ∈ zT := ztc2 225 (by decide +kernel) rfl
theorem lk_X_71 : Cond.methodLink "GentleRoad$Text" 71 y_X_readNumber ∈ zT := ztc3 45 (by decide +kernel) rfl
theorem lk_X_75 : Cond.methodLink "GentleRoad$Text" 75 y_X_readMark ∈ zT := ztc3 57 (by decide +kernel) rfl
theorem lk_X_80 : Cond.methodLink "GentleRoad$Text" 80 y_X_toNextThing ∈ zT := ztc2 229 (by decide +kernel) rfl
theorem gf_X_31 (cx : zC Ω Γ cc nL "GentleRoad$Text") (hd : decode cc pc = .ok (.getfield 31, 3)) (h : zR (σ 6 3) → zV Ω Γ R nL Q k n zLy ad σ (pc + 3) lv (.int (zI (σ 6 3)) :: st)) : zV Ω Γ R nL Q k n zLy ad σ pc lv (.ref (ad 6) :: st) := v_geti cx 3 zl_6 rfl rfl (by decide) inX8 fl_X_31 hd h
theorem lk_X_83 : Cond.methodLink "GentleRoad$Text" 83 y_X_readClause ∈ zT := ztc3 66 (by decide +kernel) rfl
theorem lk_X_88 : Cond.methodLink "GentleRoad$Text" 88 y_X_readWet ∈ zT := ztc3 71 (by decide +kernel) rfl
theorem lk_X_91 : Cond.methodLink "GentleRoad$Text" 91 y_X_wordOf ∈ zT := ztc3 75 (by decide +kernel) rfl
theorem lk_X_101 : Cond.methodLink "GentleRoad$Text" 101 y_X_number ∈ zT := ztc3 49 (by decide +kernel) rfl
theorem lk_X_105 : Cond.methodLink "GentleRoad$Text" 105 y_T_byteAt ∈ zT := ztc2 233 (by decide +kernel) rfl
theorem gf_X_34 (cx : zC Ω Γ cc nL "GentleRoad$Text") (hd : decode cc pc = .ok (.getfield 34, 3)) (h : zR (σ 6 4) → zV Ω Γ R nL Q k n zLy ad σ (pc + 3) lv (.int (zI (σ 6 4)) :: st)) : zV Ω Γ R nL Q k n zLy ad σ pc lv (.ref (ad 6) :: st) := v_geti cx 4 zl_6 rfl rfl (by decide) inX8 fl_X_34 hd h
theorem pf_X_62 (cx : zC Ω Γ cc nL "GentleRoad$Text") (ha : zR a) (hd : decode cc pc = .ok (.putfield 62, 3)) (h : zV Ω Γ R nL Q k n zLy ad (zU σ 6 5 a) (pc + 3) lv st) : zV Ω Γ R nL Q k n zLy ad σ pc lv (.int (zI a) :: .ref (ad 6) :: st) := v_puti cx 5 tyX8 tyX8_ok nmX8 zl_6 rfl rfl (by decide) inX8 fl_X_62 rfl (tyX8_ok 5 (by decide)) rfl rfl ha hd h
end
section
variable {Ω : zO} {Γ : zM} {R : Room} {nL k n : Nat} {Q : State → Prop} {ad : Nat → Nat} {σ : zS} {pc : Nat} {lv : List (Nat × Value)} {st : List Value} {cc : ByteArray} {a : Int}
theorem fl_P_11 : Cond.fieldLink "GentleRoad$Past" 11 (TX3 0).1 (TX3 0).2.1 (TX3 0).2.2.1 ∈ zT := ztc1 108 (by decide +kernel) rfl
theorem fl_P_15 : Cond.fieldLink "GentleRoad$Past" 15 (TX3 1).1 (TX3 1).2.1 (TX3 1).2.2.1 ∈ zT := ztc1 109 (by decide +kernel) rfl
theorem pf_P_15 (cx : zC Ω Γ cc nL "GentleRoad$Past") (ha : zR a) (hd : decode cc pc = .ok (.putfield 15, 3)) (h : zV Ω Γ R nL Q k n zLy ad (zU σ 9 1 a) (pc + 3) lv st) : zV Ω Γ R nL Q k n zLy ad σ pc lv (.int (zI a) :: .ref (ad 9) :: st) := v_puti cx 1 tyX3 tyX3_ok nmX3 zl_9 rfl rfl (by decide) inX3 fl_P_15 rfl (tyX3_ok 1 (by decide)) rfl rfl ha hd h
theorem fl_P_19 : Cond.fieldLink "GentleRoad$Past" 19 (TX3 2).1 (TX3 2).2.1 (TX3 2).2.2.1 ∈ zT := ztc1 110 (by decide +kernel) rfl
theorem pf_P_19 (cx : zC Ω Γ cc nL "GentleRoad$Past") (ha : zR a) (hd : decode cc pc = .ok (.putfield 19, 3)) (h : zV Ω Γ R nL Q k n zLy ad (zU σ 9 2 a) (pc + 3) lv st) : zV Ω Γ R nL Q k n zLy ad σ pc lv (.int (zI a) :: .ref (ad 9) :: st) := v_puti cx 2 tyX3 tyX3_ok nmX3 zl_9 rfl rfl (by decide) inX3 fl_P_19 rfl (tyX3_ok 2 (by decide)) rfl rfl ha hd h
theorem gf_P_19 (cx : zC Ω Γ cc nL "GentleRoad$Past") (hd : decode cc pc = .ok (.getfield 19, 3)) (h : zR (σ 9 2) → zV Ω Γ R nL Q k n zLy ad σ (pc + 3) lv (.int (zI (σ 9 2)) :: st)) : zV Ω Γ R nL Q k n zLy ad σ pc lv (.ref (ad 9) :: st) := v_geti cx 2 zl_9 rfl rfl (by decide) inX3 fl_P_19 hd h
theorem gf_P_11 (cx : zC Ω Γ cc nL "GentleRoad$Past") (hd : decode cc pc = .ok (.getfield 11, 3)) (h : zV Ω Γ R nL Q k n zLy ad σ (pc + 3) lv (.ref (ad 10) :: st)) : zV Ω Γ R nL Q k n zLy ad σ pc lv (.ref (ad 9) :: st) := v_getr cx 0 zl_9 rfl rfl (by decide) inX3 fl_P_11 hd h
theorem lk_P_22 : Cond.methodLink "GentleRoad$Past" 22 y_P_room ∈ zT := ztc4 45 (by decide +kernel) rfl
theorem lk_P_26 : Cond.methodLink "GentleRoad$Past" 26 y_L_copyTo ∈ zT := ztc4 49 (by decide +kernel) rfl
theorem gf_P_15 (cx : zC Ω Γ cc nL "GentleRoad$Past") (hd : decode cc pc = .ok (.getfield 15, 3)) (h : zR (σ 9 1) → zV Ω Γ R nL Q k n zLy ad σ (pc + 3) lv (.int (zI (σ 9 1)) :: st)) : zV Ω Γ R nL Q k n zLy ad σ pc lv (.ref (ad 9) :: st) := v_geti cx 1 zl_9 rfl rfl (by decide) inX3 fl_P_15 hd h
theorem lk_P_30 : Cond.methodLink "GentleRoad$Past" 30 y_L_take ∈ zT := ztc6 98 (by decide +kernel) rfl
end
section
variable {Ω : zO} {Γ : zM} {R : Room} {nL k n : Nat} {Q : State → Prop} {ad : Nat → Nat} {σ : zS} {pc : Nat} {lv : List (Nat × Value)} {st : List Value} {cc : ByteArray} {a : Int}
theorem fl_S_9 : Cond.fieldLink "GentleRoad$Streams" 9 (TX5 0).1 (TX5 0).2.1 (TX5 0).2.2.1 ∈ zT := ztc1 124 (by decide +kernel) rfl
theorem fl_S_15 : Cond.fieldLink "GentleRoad$Streams" 15 (TX5 1).1 (TX5 1).2.1 (TX5 1).2.2.1 ∈ zT := ztc1 125 (by decide +kernel) rfl
theorem fl_S_19 : Cond.fieldLink "GentleRoad$Streams" 19 (TX5 2).1 (TX5 2).2.1 (TX5 2).2.2.1 ∈ zT := ztc1 126 (by decide +kernel) rfl
theorem fl_S_22 : Cond.fieldLink "GentleRoad$Streams" 22 (TX5 3).1 (TX5 3).2.1 (TX5 3).2.2.1 ∈ zT := ztc1 127 (by decide +kernel) rfl
theorem gf_S_9 (cx : zC Ω Γ cc nL "GentleRoad$Streams") (hd : decode cc pc = .ok (.getfield 9, 3)) (h : zV Ω Γ R nL Q k n zLy ad σ (pc + 3) lv (.ref (ad 3) :: st)) : zV Ω Γ R nL Q k n zLy ad σ pc lv (.ref (ad 11) :: st) := v_getr cx 0 zl_11 rfl rfl (by decide) inX5 fl_S_9 hd h
theorem lk_S_25 : Cond.methodLink "GentleRoad$Streams" 25 y_L_height ∈ zT := ztc2 196 (by decide +kernel) rfl
theorem lk_S_31 : Cond.methodLink "GentleRoad$Streams" 31 y_L_besideOf ∈ zT := ztc2 200 (by decide +kernel) rfl
theorem lk_S_35 : Cond.methodLink "GentleRoad$Streams" 35 y_L_places ∈ zT := ztc2 191 (by decide +kernel) rfl
theorem lk_S_39 : Cond.methodLink "GentleRoad$Streams" 39 y_S_runOf ∈ zT := ztc2 192 (by decide +kernel) rfl
theorem gf_S_15 (cx : zC Ω Γ cc nL "GentleRoad$Streams") (hd : decode cc pc = .ok (.getfield 15, 3)) (h : zV Ω Γ R nL Q k n zLy ad σ (pc + 3) lv (.ref (ad 12) :: st)) : zV Ω Γ R nL Q k n zLy ad σ pc lv (.ref (ad 11) :: st) := v_getr cx 1 zl_11 rfl rfl (by decide) inX5 fl_S_15 hd h
theorem gf_S_19 (cx : zC Ω Γ cc nL "GentleRoad$Streams") (hd : decode cc pc = .ok (.getfield 19, 3)) (h : zV Ω Γ R nL Q k n zLy ad σ (pc + 3) lv (.ref (ad 13) :: st)) : zV Ω Γ R nL Q k n zLy ad σ pc lv (.ref (ad 11) :: st) := v_getr cx 2 zl_11 rfl rfl (by decide) inX5 fl_S_19 hd h
theorem gf_S_22 (cx : zC Ω Γ cc nL "GentleRoad$Streams") (hd : decode cc pc = .ok (.getfield 22, 3)) (h : zV Ω Γ R nL Q k n zLy ad σ (pc + 3) lv (.ref (ad 14) :: st)) : zV Ω Γ R nL Q k n zLy ad σ pc lv (.ref (ad 11) :: st) := v_getr cx 3 zl_11 rfl rfl (by decide) inX5 fl_S_22 hd h
theorem lk_S_48 : Cond.methodLink "GentleRoad$Streams" 48 y_S_lowestMet ∈ zT := ztc7 137 (by decide +kernel) rfl
theorem lk_S_56 : Cond.methodLink "GentleRoad$Streams" 56 y_L_isEdge ∈ zT := ztc7 142 (by decide +kernel) rfl
theorem lk_S_60 : Cond.methodLink "GentleRoad$Streams" 60 y_S_pass ∈ zT := ztc7 146 (by decide +kernel) rfl
end
section
variable {Ω : zO} {Γ : zM} {R : Room} {nL k n : Nat} {Q : State → Prop} {ad : Nat → Nat} {σ : zS} {pc : Nat} {lv : List (Nat × Value)} {st : List Value} {cc : ByteArray} {a : Int}
theorem fl_H_9 : Cond.fieldLink "GentleRoad$Heap" 9 (TX1 0).1 (TX1 0).2.1 (TX1 0).2.2.1 ∈ zT := ztc1 149 (by decide +kernel) rfl
theorem fl_H_15 : Cond.fieldLink "GentleRoad$Heap" 15 (TX1 1).1 (TX1 1).2.1 (TX1 1).2.2.1 ∈ zT := ztc1 150 (by decide +kernel) rfl
theorem fl_H_18 : Cond.fieldLink "GentleRoad$Heap" 18 (TX1 2).1 (TX1 2).2.1 (TX1 2).2.2.1 ∈ zT := ztc1 151 (by decide +kernel) rfl
theorem fl_H_21 : Cond.fieldLink "GentleRoad$Heap" 21 (TX1 3).1 (TX1 3).2.1 (TX1 3).2.2.1 ∈ zT := ztc1 152 (by decide +kernel) rfl
theorem pf_H_21 (cx : zC Ω Γ cc nL "GentleRoad$Heap") (ha : zR a) (hd : decode cc pc = .ok (.putfield 21, 3)) (h : zV Ω Γ R nL Q k n zLy ad (zU σ 21 3 a) (pc + 3) lv st) : zV Ω Γ R nL Q k n zLy ad σ pc lv (.int (zI a) :: .ref (ad 21) :: st) := v_puti cx 3 tyX1 tyX1_ok nmX1 zl_21 rfl rfl (by decide) inX1 fl_H_21 rfl (tyX1_ok 3 (by decide)) rfl rfl ha hd h
theorem gf_H_9 (cx : zC Ω Γ cc nL "GentleRoad$Heap") (hd : decode cc pc = .ok (.getfield 9, 3)) (h : zV Ω Γ R nL Q k n zLy ad σ (pc + 3) lv (.ref (ad 22) :: st)) : zV Ω Γ R nL Q k n zLy ad σ pc lv (.ref (ad 21) :: st) := v_getr cx 0 zl_21 rfl rfl (by decide) inX1 fl_H_9 hd h
theorem ct_H_25 : Cond.constant "GentleRoad$Heap" 25 (zI (1000000000)) ∈ zT := ztc4 164 (by decide +kernel) rfl
theorem gf_H_21 (cx : zC Ω Γ cc nL "GentleRoad$Heap") (hd : decode cc pc = .ok (.getfield 21, 3)) (h : zR (σ 21 3) → zV Ω Γ R nL Q k n zLy ad σ (pc + 3) lv (.int (zI (σ 21 3)) :: st)) : zV Ω Γ R nL Q k n zLy ad σ pc lv (.ref (ad 21) :: st) := v_geti cx 3 zl_21 rfl rfl (by decide) inX1 fl_H_21 hd h
theorem gf_H_15 (cx : zC Ω Γ cc nL "GentleRoad$Heap") (hd : decode cc pc = .ok (.getfield 15, 3)) (h : zV Ω Γ R nL Q k n zLy ad σ (pc + 3) lv (.ref (ad 23) :: st)) : zV Ω Γ R nL Q k n zLy ad σ pc lv (.ref (ad 21) :: st) := v_getr cx 1 zl_21 rfl rfl (by decide) inX1 fl_H_15 hd h
theorem lk_H_32 : Cond.methodLink "GentleRoad$Heap" 32 y_H_rise ∈ zT := ztc5 186 (by decide +kernel) rfl
theorem gf_H_18 (cx : zC Ω Γ cc nL "GentleRoad$Heap") (hd : decode cc pc = .ok (.getfield 18, 3)) (h : zV Ω Γ R nL Q k n zLy ad σ (pc + 3) lv (.ref (ad 24) :: st)) : zV Ω Γ R nL Q k n zLy ad σ pc lv (.ref (ad 21) :: st) := v_getr cx 2 zl_21 rfl rfl (by decide) inX1 fl_H_18 hd h
theorem lk_H_36 : Cond.methodLink "GentleRoad$Heap" 36 y_H_sink ∈ zT := ztc5 198 (by decide +kernel) rfl
end
section
variable {Ω : zO} {Γ : zM} {R : Room} {nL k n : Nat} {Q : State → Prop} {ad : Nat → Nat} {σ : zS} {pc : Nat} {lv : List (Nat × Value)} {st : List Value} {cc : ByteArray} {a : Int}
theorem fl_W_9 : Cond.fieldLink "GentleRoad$Ways" 9 (TX9 0).1 (TX9 0).2.1 (TX9 0).2.2.1 ∈ zT := ztc1 162 (by decide +kernel) rfl
theorem fl_W_15 : Cond.fieldLink "GentleRoad$Ways" 15 (TX9 1).1 (TX9 1).2.1 (TX9 1).2.2.1 ∈ zT := ztc1 163 (by decide +kernel) rfl
theorem fl_W_19 : Cond.fieldLink "GentleRoad$Ways" 19 (TX9 2).1 (TX9 2).2.1 (TX9 2).2.2.1 ∈ zT := ztc1 164 (by decide +kernel) rfl
theorem fl_W_23 : Cond.fieldLink "GentleRoad$Ways" 23 (TX9 3).1 (TX9 3).2.1 (TX9 3).2.2.1 ∈ zT := ztc1 165 (by decide +kernel) rfl
theorem fl_W_26 : Cond.fieldLink "GentleRoad$Ways" 26 (TX9 4).1 (TX9 4).2.1 (TX9 4).2.2.1 ∈ zT := ztc1 166 (by decide +kernel) rfl
theorem fl_W_30 : Cond.fieldLink "GentleRoad$Ways" 30 (TX9 5).1 (TX9 5).2.1 (TX9 5).2.2.1 ∈ zT := ztc1 167 (by decide +kernel) rfl
theorem fl_W_33 : Cond.fieldLink "GentleRoad$Ways" 33 (TX9 6).1 (TX9 6).2.1 (TX9 6).2.2.1 ∈ zT := ztc1 168 (by decide +kernel) rfl
theorem fl_W_41 : Cond.fieldLink "GentleRoad$Ways" 41 (TX9 7).1 (TX9 7).2.1 (TX9 7).2.2.1 ∈ zT := ztc1 169 (by decide +kernel) rfl
theorem fl_W_45 : Cond.fieldLink "GentleRoad$Ways" 45 (TX9 8).1 (TX9 8).2.1 (TX9 8).2.2.1 ∈ zT := ztc1 170 (by decide +kernel) rfl
theorem fl_W_48 : Cond.fieldLink "GentleRoad$Ways" 48 (TX9 9).1 (TX9 9).2.1 (TX9 9).2.2.1 ∈ zT := ztc1 171 (by decide +kernel) rfl
theorem fl_W_51 : Cond.fieldLink "GentleRoad$Ways" 51 (TX9 10).1 (TX9 10).2.1 (TX9 10).2.2.1 ∈ zT := ztc1 172 (by decide +kernel) rfl
theorem fl_W_54 : Cond.fieldLink "GentleRoad$Ways" 54 (TX9 12).1 (TX9 12).2.1 (TX9 12).2.2.1 ∈ zT := ztc1 174 (by decide +kernel) rfl
theorem pf_W_54 (cx : zC Ω Γ cc nL "GentleRoad$Ways") (ha : zR a) (hd : decode cc pc = .ok (.putfield 54, 3)) (h : zV Ω Γ R nL Q k n zLy ad (zU σ 15 12 a) (pc + 3) lv st) : zV Ω Γ R nL Q k n zLy ad σ pc lv (.int (zI a) :: .ref (ad 15) :: st) := v_puti cx 12 tyX9 tyX9_ok nmX9 zl_15 rfl rfl (by decide) inX9 fl_W_54 rfl (tyX9_ok 12 (by decide)) rfl rfl ha hd h
theorem fl_W_58 : Cond.fieldLink "GentleRoad$Ways" 58 (TX9 13).1 (TX9 13).2.1 (TX9 13).2.2.1 ∈ zT := ztc1 175 (by decide +kernel) rfl
theorem pf_W_58 (cx : zC Ω Γ cc nL "GentleRoad$Ways") (ha : zR a) (hd : decode cc pc = .ok (.putfield 58, 3)) (h : zV Ω Γ R nL Q k n zLy ad (zU σ 15 13 a) (pc + 3) lv st) : zV Ω Γ R nL Q k n zLy ad σ pc lv (.int (zI a) :: .ref (ad 15) :: st) := v_puti cx 13 tyX9 tyX9_ok nmX9 zl_15 rfl rfl (by decide) inX9 fl_W_58 rfl (tyX9_ok 13 (by decide)) rfl rfl ha hd h
theorem gf_W_45 (cx : zC Ω Γ cc nL "GentleRoad$Ways") (hd : decode cc pc = .ok (.getfield 45, 3)) (h : zV Ω Γ R nL Q k n zLy ad σ (pc + 3) lv (.ref (ad 25) :: st)) : zV Ω Γ R nL Q k n zLy ad σ pc lv (.ref (ad 15) :: st) := v_getr cx 8 zl_15 rfl rfl (by decide) inX9 fl_W_45 hd h
theorem gf_W_58 (cx : zC Ω Γ cc nL "GentleRoad$Ways") (hd : decode cc pc = .ok (.getfield 58, 3)) (h : zR (σ 15 13) → zV Ω Γ R nL Q k n zLy ad σ (pc + 3) lv (.int (zI (σ 15 13)) :: st)) : zV Ω Γ R nL Q k n zLy ad σ pc lv (.ref (ad 15) :: st) := v_geti cx 13 zl_15 rfl rfl (by decide) inX9 fl_W_58 hd h
theorem gf_W_9 (cx : zC Ω Γ cc nL "GentleRoad$Ways") (hd : decode cc pc = .ok (.getfield 9, 3)) (h : zV Ω Γ R nL Q k n zLy ad σ (pc + 3) lv (.ref (ad 3) :: st)) : zV Ω Γ R nL Q k n zLy ad σ pc lv (.ref (ad 15) :: st) := v_getr cx 0 zl_15 rfl rfl (by decide) inX9 fl_W_9 hd h
theorem lk_W_61 : Cond.methodLink "GentleRoad$Ways" 61 y_L_value ∈ zT := ztc4 102 (by decide +kernel) rfl
theorem lk_W_67 : Cond.methodLink "GentleRoad$Ways" 67 y_W_prepare ∈ zT := ztc4 103 (by decide +kernel) rfl
theorem lk_W_71 : Cond.methodLink "GentleRoad$Ways" 71 y_W_search ∈ zT := ztc4 156 (by decide +kernel) rfl
theorem lk_W_75 : Cond.methodLink "GentleRoad$Ways" 75 y_W_left ∈ zT := ztc5 220 (by decide +kernel) rfl
theorem lk_W_78 : Cond.methodLink "GentleRoad$Ways" 78 y_W_walk ∈ zT := ztc5 206 (by decide +kernel) rfl
theorem fl_W_81 : Cond.fieldLink "GentleRoad$Ways" 81 (TX9 11).1 (TX9 11).2.1 (TX9 11).2.2.1 ∈ zT := ztc1 173 (by decide +kernel) rfl
theorem pf_W_81 (cx : zC Ω Γ cc nL "GentleRoad$Ways") (ha : zR a) (hd : decode cc pc = .ok (.putfield 81, 3)) (h : zV Ω Γ R nL Q k n zLy ad (zU σ 15 11 a) (pc + 3) lv st) : zV Ω Γ R nL Q k n zLy ad σ pc lv (.int (zI a) :: .ref (ad 15) :: st) := v_puti cx 11 tyX9 tyX9_ok nmX9 zl_15 rfl rfl (by decide) inX9 fl_W_81 rfl (tyX9_ok 11 (by decide)) rfl rfl ha hd h
theorem gf_W_30 (cx : zC Ω Γ cc nL "GentleRoad$Ways") (hd : decode cc pc = .ok (.getfield 30, 3)) (h : zV Ω Γ R nL Q k n zLy ad σ (pc + 3) lv (.ref (ad 19) :: st)) : zV Ω Γ R nL Q k n zLy ad σ pc lv (.ref (ad 15) :: st) := v_getr cx 5 zl_15 rfl rfl (by decide) inX9 fl_W_30 hd h
theorem lk_W_84 : Cond.methodLink "GentleRoad$Ways" 84 y_L_bendCost ∈ zT := ztc4 107 (by decide +kernel) rfl
theorem lk_W_87 : Cond.methodLink "GentleRoad$Ways" 87 y_W_markUsed ∈ zT := ztc4 111 (by decide +kernel) rfl
theorem gf_W_15 (cx : zC Ω Γ cc nL "GentleRoad$Ways") (hd : decode cc pc = .ok (.getfield 15, 3)) (h : zV Ω Γ R nL Q k n zLy ad σ (pc + 3) lv (.ref (ad 11) :: st)) : zV Ω Γ R nL Q k n zLy ad σ pc lv (.ref (ad 15) :: st) := v_getr cx 1 zl_15 rfl rfl (by decide) inX9 fl_W_15 hd h
theorem lk_W_90 : Cond.methodLink "GentleRoad$Ways" 90 y_S_gather ∈ zT := ztc4 133 (by decide +kernel) rfl
theorem lk_W_95 : Cond.methodLink "GentleRoad$Ways" 95 y_L_places ∈ zT := ztc4 137 (by decide +kernel) rfl
theorem gf_W_26 (cx : zC Ω Γ cc nL "GentleRoad$Ways") (hd : decode cc pc = .ok (.getfield 26, 3)) (h : zV Ω Γ R nL Q k n zLy ad σ (pc + 3) lv (.ref (ad 18) :: st)) : zV Ω Γ R nL Q k n zLy ad σ pc lv (.ref (ad 15) :: st) := v_getr cx 4 zl_15 rfl rfl (by decide) inX9 fl_W_26 hd h
theorem lk_W_99 : Cond.methodLink "GentleRoad$Ways" 99 y_L_isFlat ∈ zT := ztc4 138 (by decide +kernel) rfl
theorem lk_W_103 : Cond.methodLink "GentleRoad$Ways" 103 y_W_weigh ∈ zT := ztc4 139 (by decide +kernel) rfl
theorem gf_W_19 (cx : zC Ω Γ cc nL "GentleRoad$Ways") (hd : decode cc pc = .ok (.getfield 19, 3)) (h : zV Ω Γ R nL Q k n zLy ad σ (pc + 3) lv (.ref (ad 16) :: st)) : zV Ω Γ R nL Q k n zLy ad σ pc lv (.ref (ad 15) :: st) := v_getr cx 2 zl_15 rfl rfl (by decide) inX9 fl_W_19 hd h
theorem gf_W_23 (cx : zC Ω Γ cc nL "GentleRoad$Ways") (hd : decode cc pc = .ok (.getfield 23, 3)) (h : zV Ω Γ R nL Q k n zLy ad σ (pc + 3) lv (.ref (ad 17) :: st)) : zV Ω Γ R nL Q k n zLy ad σ pc lv (.ref (ad 15) :: st) := v_getr cx 3 zl_15 rfl rfl (by decide) inX9 fl_W_23 hd h
theorem lk_W_107 : Cond.methodLink "GentleRoad$Ways" 107 y_L_isOpen ∈ zT := ztc4 143 (by decide +kernel) rfl
theorem lk_W_111 : Cond.methodLink "GentleRoad$Ways" 111 y_L_isSteep ∈ zT := ztc4 144 (by decide +kernel) rfl
theorem lk_W_115 : Cond.methodLink "GentleRoad$Ways" 115 y_W_amount ∈ zT := ztc4 145 (by decide +kernel) rfl
theorem lk_W_119 : Cond.methodLink "GentleRoad$Ways" 119 y_L_besideOf ∈ zT := ztc4 149 (by decide +kernel) rfl
theorem lk_W_123 : Cond.methodLink "GentleRoad$Ways" 123 y_L_height ∈ zT := ztc4 150 (by decide +kernel) rfl
theorem ln_W_126 : Cond.methodLinkNest "GentleRoad$Ways" 126 y_R_longOf "GentleRoad" ∈ zNw := List.mem_of_getElem? (i := 17) rfl
theorem gf_W_33 (cx : zC Ω Γ cc nL "GentleRoad$Ways") (hd : decode cc pc = .ok (.getfield 33, 3)) (h : zV Ω Γ R nL Q k n zLy ad σ (pc + 3) lv (.ref (ad 20) :: st)) : zV Ω Γ R nL Q k n zLy ad σ pc lv (.ref (ad 15) :: st) := v_getr cx 6 zl_15 rfl rfl (by decide) inX9 fl_W_33 hd h
theorem lk_W_129 : Cond.methodLink "GentleRoad$Ways" 129 y_S_catchOf ∈ zT := ztc4 152 (by decide +kernel) rfl
theorem lk_W_138 : Cond.methodLink "GentleRoad$Ways" 138 y_L_roadSize ∈ zT := ztc4 116 (by decide +kernel) rfl
theorem lk_W_141 : Cond.methodLink "GentleRoad$Ways" 141 y_L_roadHeading ∈ zT := ztc4 117 (by decide +kernel) rfl
theorem lk_W_144 : Cond.methodLink "GentleRoad$Ways" 144 y_L_roadPlace ∈ zT := ztc4 129 (by decide +kernel) rfl
theorem ln_W_147 : Cond.methodLinkNest "GentleRoad$Ways" 147 y_R_opposite "GentleRoad" ∈ zNw := List.mem_of_getElem? (i := 16) rfl
theorem ln_W_150 : Cond.methodLinkNest "GentleRoad$Ways" 150 y_R_eighths "GentleRoad" ∈ zNw := List.mem_of_getElem? (i := 22) rfl
theorem gf_W_81 (cx : zC Ω Γ cc nL "GentleRoad$Ways") (hd : decode cc pc = .ok (.getfield 81, 3)) (h : zR (σ 15 11) → zV Ω Γ R nL Q k n zLy ad σ (pc + 3) lv (.int (zI (σ 15 11)) :: st)) : zV Ω Γ R nL Q k n zLy ad σ pc lv (.ref (ad 15) :: st) := v_geti cx 11 zl_15 rfl rfl (by decide) inX9 fl_W_81 hd h
theorem gf_W_41 (cx : zC Ω Γ cc nL "GentleRoad$Ways") (hd : decode cc pc = .ok (.getfield 41, 3)) (h : zV Ω Γ R nL Q k n zLy ad σ (pc + 3) lv (.ref (ad 21) :: st)) : zV Ω Γ R nL Q k n zLy ad σ pc lv (.ref (ad 15) :: st) := v_getr cx 7 zl_15 rfl rfl (by decide) inX9 fl_W_41 hd h
theorem gf_W_54 (cx : zC Ω Γ cc nL "GentleRoad$Ways") (hd : decode cc pc = .ok (.getfield 54, 3)) (h : zR (σ 15 12) → zV Ω Γ R nL Q k n zLy ad σ (pc + 3) lv (.int (zI (σ 15 12)) :: st)) : zV Ω Γ R nL Q k n zLy ad σ pc lv (.ref (ad 15) :: st) := v_geti cx 12 zl_15 rfl rfl (by decide) inX9 fl_W_54 hd h
theorem lk_W_153 : Cond.methodLink "GentleRoad$Ways" 153 y_H_clear ∈ zT := ztc4 160 (by decide +kernel) rfl
theorem lk_W_156 : Cond.methodLink "GentleRoad$Ways" 156 y_W_offerStepsTo ∈ zT := ztc5 171 (by decide +kernel) rfl
theorem lk_W_160 : Cond.methodLink "GentleRoad$Ways" 160 y_H_isEmpty ∈ zT := ztc5 190 (by decide +kernel) rfl
theorem lk_W_164 : Cond.methodLink "GentleRoad$Ways" 164 y_H_poll ∈ zT := ztc5 194 (by decide +kernel) rfl
theorem lk_W_167 : Cond.methodLink "GentleRoad$Ways" 167 y_H_key ∈ zT := ztc5 202 (by decide +kernel) rfl
theorem lk_W_170 : Cond.methodLink "GentleRoad$Ways" 170 y_W_canBend ∈ zT := ztc5 175 (by decide +kernel) rfl
theorem lk_W_173 : Cond.methodLink "GentleRoad$Ways" 173 y_H_offer ∈ zT := ztc5 182 (by decide +kernel) rfl
theorem ct_W_176 : Cond.constant "GentleRoad$Ways" 176 (zI (1000000000)) ∈ zT := ztc5 214 (by decide +kernel) rfl
theorem lk_W_182 : Cond.methodLink "GentleRoad$Ways" 182 y_W_leastKey ∈ zT := ztc5 210 (by decide +kernel) rfl
theorem lk_W_185 : Cond.methodLink "GentleRoad$Ways" 185 y_W_firstHeading ∈ zT := ztc5 216 (by decide +kernel) rfl
theorem gf_W_48 (cx : zC Ω Γ cc nL "GentleRoad$Ways") (hd : decode cc pc = .ok (.getfield 48, 3)) (h : zV Ω Γ R nL Q k n zLy ad σ (pc + 3) lv (.ref (ad 26) :: st)) : zV Ω Γ R nL Q k n zLy ad σ pc lv (.ref (ad 15) :: st) := v_getr cx 9 zl_15 rfl rfl (by decide) inX9 fl_W_48 hd h
theorem lk_W_188 : Cond.methodLink "GentleRoad$Ways" 188 y_W_line ∈ zT := ztc6 134 (by decide +kernel) rfl
theorem gf_W_51 (cx : zC Ω Γ cc nL "GentleRoad$Ways") (hd : decode cc pc = .ok (.getfield 51, 3)) (h : zV Ω Γ R nL Q k n zLy ad σ (pc + 3) lv (.ref (ad 27) :: st)) : zV Ω Γ R nL Q k n zLy ad σ pc lv (.ref (ad 15) :: st) := v_getr cx 10 zl_15 rfl rfl (by decide) inX9 fl_W_51 hd h
end
section
variable {Ω : zO} {Γ : zM} {R : Room} {nL k n : Nat} {Q : State → Prop} {ad : Nat → Nat} {σ : zS} {pc : Nat} {lv : List (Nat × Value)} {st : List Value} {cc : ByteArray} {a : Int}
theorem fl_N_9 : Cond.fieldLink "GentleRoad$Planner" 9 (TX4 0).1 (TX4 0).2.1 (TX4 0).2.2.1 ∈ zT := ztc1 211 (by decide +kernel) rfl
theorem fl_N_15 : Cond.fieldLink "GentleRoad$Planner" 15 (TX4 1).1 (TX4 1).2.1 (TX4 1).2.2.1 ∈ zT := ztc1 212 (by decide +kernel) rfl
theorem fl_N_19 : Cond.fieldLink "GentleRoad$Planner" 19 (TX4 2).1 (TX4 2).2.1 (TX4 2).2.2.1 ∈ zT := ztc1 213 (by decide +kernel) rfl
theorem fl_N_23 : Cond.fieldLink "GentleRoad$Planner" 23 (TX4 3).1 (TX4 3).2.1 (TX4 3).2.2.1 ∈ zT := ztc1 214 (by decide +kernel) rfl
theorem fl_N_26 : Cond.fieldLink "GentleRoad$Planner" 26 (TX4 4).1 (TX4 4).2.1 (TX4 4).2.2.1 ∈ zT := ztc1 215 (by decide +kernel) rfl
theorem fl_N_29 : Cond.fieldLink "GentleRoad$Planner" 29 (TX4 5).1 (TX4 5).2.1 (TX4 5).2.2.1 ∈ zT := ztc1 216 (by decide +kernel) rfl
theorem fl_N_32 : Cond.fieldLink "GentleRoad$Planner" 32 (TX4 6).1 (TX4 6).2.1 (TX4 6).2.2.1 ∈ zT := ztc1 217 (by decide +kernel) rfl
theorem fl_N_35 : Cond.fieldLink "GentleRoad$Planner" 35 (TX4 7).1 (TX4 7).2.1 (TX4 7).2.2.1 ∈ zT := ztc1 218 (by decide +kernel) rfl
theorem fl_N_38 : Cond.fieldLink "GentleRoad$Planner" 38 (TX4 8).1 (TX4 8).2.1 (TX4 8).2.2.1 ∈ zT := ztc1 219 (by decide +kernel) rfl
theorem pf_N_38 (cx : zC Ω Γ cc nL "GentleRoad$Planner") (ha : zR a) (hd : decode cc pc = .ok (.putfield 38, 3)) (h : zV Ω Γ R nL Q k n zLy ad (zU σ 28 8 a) (pc + 3) lv st) : zV Ω Γ R nL Q k n zLy ad σ pc lv (.int (zI a) :: .ref (ad 28) :: st) := v_puti cx 8 tyX4 tyX4_ok nmX4 zl_28 rfl rfl (by decide) inX4 fl_N_38 rfl (tyX4_ok 8 (by decide)) rfl rfl ha hd h
theorem fl_N_42 : Cond.fieldLink "GentleRoad$Planner" 42 (TX4 9).1 (TX4 9).2.1 (TX4 9).2.2.1 ∈ zT := ztc1 220 (by decide +kernel) rfl
theorem pf_N_42 (cx : zC Ω Γ cc nL "GentleRoad$Planner") (ha : zR a) (hd : decode cc pc = .ok (.putfield 42, 3)) (h : zV Ω Γ R nL Q k n zLy ad (zU σ 28 9 a) (pc + 3) lv st) : zV Ω Γ R nL Q k n zLy ad σ pc lv (.int (zI a) :: .ref (ad 28) :: st) := v_puti cx 9 tyX4 tyX4_ok nmX4 zl_28 rfl rfl (by decide) inX4 fl_N_42 rfl (tyX4_ok 9 (by decide)) rfl rfl ha hd h
theorem gf_N_15 (cx : zC Ω Γ cc nL "GentleRoad$Planner") (hd : decode cc pc = .ok (.getfield 15, 3)) (h : zV Ω Γ R nL Q k n zLy ad σ (pc + 3) lv (.ref (ad 15) :: st)) : zV Ω Γ R nL Q k n zLy ad σ pc lv (.ref (ad 28) :: st) := v_getr cx 1 zl_28 rfl rfl (by decide) inX4 fl_N_15 hd h
theorem gf_N_9 (cx : zC Ω Γ cc nL "GentleRoad$Planner") (hd : decode cc pc = .ok (.getfield 9, 3)) (h : zV Ω Γ R nL Q k n zLy ad σ (pc + 3) lv (.ref (ad 3) :: st)) : zV Ω Γ R nL Q k n zLy ad σ pc lv (.ref (ad 28) :: st) := v_getr cx 0 zl_28 rfl rfl (by decide) inX4 fl_N_9 hd h
theorem lk_N_45 : Cond.methodLink "GentleRoad$Planner" 45 y_L_value ∈ zT := ztc6 128 (by decide +kernel) rfl
theorem lk_N_51 : Cond.methodLink "GentleRoad$Planner" 51 y_W_prepare ∈ zT := ztc6 129 (by decide +kernel) rfl
theorem gf_N_19 (cx : zC Ω Γ cc nL "GentleRoad$Planner") (hd : decode cc pc = .ok (.getfield 19, 3)) (h : zV Ω Γ R nL Q k n zLy ad σ (pc + 3) lv (.ref (ad 29) :: st)) : zV Ω Γ R nL Q k n zLy ad σ pc lv (.ref (ad 28) :: st) := v_getr cx 2 zl_28 rfl rfl (by decide) inX4 fl_N_19 hd h
theorem lk_N_57 : Cond.methodLink "GentleRoad$Planner" 57 y_W_spread ∈ zT := ztc6 130 (by decide +kernel) rfl
theorem lk_N_61 : Cond.methodLink "GentleRoad$Planner" 61 y_L_places ∈ zT := ztc6 138 (by decide +kernel) rfl
theorem lk_N_65 : Cond.methodLink "GentleRoad$Planner" 65 y_N_isWay ∈ zT := ztc6 150 (by decide +kernel) rfl
theorem lk_N_69 : Cond.methodLink "GentleRoad$Planner" 69 y_W_find ∈ zT := ztc6 165 (by decide +kernel) rfl
theorem lk_N_73 : Cond.methodLink "GentleRoad$Planner" 73 y_N_markTouched ∈ zT := ztc6 166 (by decide +kernel) rfl
theorem gf_N_23 (cx : zC Ω Γ cc nL "GentleRoad$Planner") (hd : decode cc pc = .ok (.getfield 23, 3)) (h : zV Ω Γ R nL Q k n zLy ad σ (pc + 3) lv (.ref (ad 30) :: st)) : zV Ω Γ R nL Q k n zLy ad σ pc lv (.ref (ad 28) :: st) := v_getr cx 3 zl_28 rfl rfl (by decide) inX4 fl_N_23 hd h
theorem lk_N_76 : Cond.methodLink "GentleRoad$Planner" 76 y_N_isWayWithout ∈ zT := ztc6 175 (by decide +kernel) rfl
theorem lk_N_79 : Cond.methodLink "GentleRoad$Planner" 79 y_W_path ∈ zT := ztc6 170 (by decide +kernel) rfl
theorem lk_N_89 : Cond.methodLink "GentleRoad$Planner" 89 y_W_pathSize ∈ zT := ztc6 172 (by decide +kernel) rfl
theorem lk_N_92 : Cond.methodLink "GentleRoad$Planner" 92 y_L_headingTo ∈ zT := ztc6 173 (by decide +kernel) rfl
theorem lk_N_96 : Cond.methodLink "GentleRoad$Planner" 96 y_L_besideOf ∈ zT := ztc6 174 (by decide +kernel) rfl
theorem lk_N_99 : Cond.methodLink "GentleRoad$Planner" 99 y_L_isWet ∈ zT := ztc6 179 (by decide +kernel) rfl
theorem lk_N_103 : Cond.methodLink "GentleRoad$Planner" 103 y_L_setWet ∈ zT := ztc6 180 (by decide +kernel) rfl
theorem gf_N_26 (cx : zC Ω Γ cc nL "GentleRoad$Planner") (hd : decode cc pc = .ok (.getfield 26, 3)) (h : zV Ω Γ R nL Q k n zLy ad σ (pc + 3) lv (.ref (ad 31) :: st)) : zV Ω Γ R nL Q k n zLy ad σ pc lv (.ref (ad 28) :: st) := v_getr cx 4 zl_28 rfl rfl (by decide) inX4 fl_N_26 hd h
theorem lk_N_107 : Cond.methodLink "GentleRoad$Planner" 107 y_W_searchAll ∈ zT := ztc6 207 (by decide +kernel) rfl
theorem lk_N_111 : Cond.methodLink "GentleRoad$Planner" 111 y_W_costBetween ∈ zT := ztc6 211 (by decide +kernel) rfl
theorem ct_N_114 : Cond.constant "GentleRoad$Planner" 114 (zI (1000000000)) ∈ zT := ztc6 215 (by decide +kernel) rfl
theorem gf_N_29 (cx : zC Ω Γ cc nL "GentleRoad$Planner") (hd : decode cc pc = .ok (.getfield 29, 3)) (h : zV Ω Γ R nL Q k n zLy ad σ (pc + 3) lv (.ref (ad 32) :: st)) : zV Ω Γ R nL Q k n zLy ad σ pc lv (.ref (ad 28) :: st) := v_getr cx 5 zl_28 rfl rfl (by decide) inX4 fl_N_29 hd h
theorem lk_N_115 : Cond.methodLink "GentleRoad$Planner" 115 y_T_byteAt ∈ zT := ztc6 235 (by decide +kernel) rfl
theorem lk_N_120 : Cond.methodLink "GentleRoad$Planner" 120 y_N_findLegs ∈ zT := ztc7 1 (by decide +kernel) rfl
theorem gf_N_38 (cx : zC Ω Γ cc nL "GentleRoad$Planner") (hd : decode cc pc = .ok (.getfield 38, 3)) (h : zR (σ 28 8) → zV Ω Γ R nL Q k n zLy ad σ (pc + 3) lv (.int (zI (σ 28 8)) :: st)) : zV Ω Γ R nL Q k n zLy ad σ pc lv (.ref (ad 28) :: st) := v_geti cx 8 zl_28 rfl rfl (by decide) inX4 fl_N_38 hd h
theorem gf_N_35 (cx : zC Ω Γ cc nL "GentleRoad$Planner") (hd : decode cc pc = .ok (.getfield 35, 3)) (h : zV Ω Γ R nL Q k n zLy ad σ (pc + 3) lv (.ref (ad 34) :: st)) : zV Ω Γ R nL Q k n zLy ad σ pc lv (.ref (ad 28) :: st) := v_getr cx 7 zl_28 rfl rfl (by decide) inX4 fl_N_35 hd h
theorem gf_N_32 (cx : zC Ω Γ cc nL "GentleRoad$Planner") (hd : decode cc pc = .ok (.getfield 32, 3)) (h : zV Ω Γ R nL Q k n zLy ad σ (pc + 3) lv (.ref (ad 33) :: st)) : zV Ω Γ R nL Q k n zLy ad σ pc lv (.ref (ad 28) :: st) := v_getr cx 6 zl_28 rfl rfl (by decide) inX4 fl_N_32 hd h
theorem lk_N_123 : Cond.methodLink "GentleRoad$Planner" 123 y_N_extend ∈ zT := ztc7 5 (by decide +kernel) rfl
theorem lk_N_132 : Cond.methodLink "GentleRoad$Planner" 132 y_L_roadSize ∈ zT := ztc7 175 (by decide +kernel) rfl
theorem lk_N_135 : Cond.methodLink "GentleRoad$Planner" 135 y_L_roadPlace ∈ zT := ztc7 176 (by decide +kernel) rfl
theorem lk_N_138 : Cond.methodLink "GentleRoad$Planner" 138 y_N_costWithout ∈ zT := ztc7 189 (by decide +kernel) rfl
theorem gf_N_42 (cx : zC Ω Γ cc nL "GentleRoad$Planner") (hd : decode cc pc = .ok (.getfield 42, 3)) (h : zR (σ 28 9) → zV Ω Γ R nL Q k n zLy ad σ (pc + 3) lv (.int (zI (σ 28 9)) :: st)) : zV Ω Γ R nL Q k n zLy ad σ pc lv (.ref (ad 28) :: st) := v_geti cx 9 zl_28 rfl rfl (by decide) inX4 fl_N_42 hd h
theorem lk_N_141 : Cond.methodLink "GentleRoad$Planner" 141 y_W_takeWeight ∈ zT := ztc7 193 (by decide +kernel) rfl
theorem ln_N_144 : Cond.methodLinkNest "GentleRoad$Planner" 144 y_R_opposite "GentleRoad" ∈ zNw := List.mem_of_getElem? (i := 27) rfl
theorem lk_N_147 : Cond.methodLink "GentleRoad$Planner" 147 y_W_search ∈ zT := ztc7 198 (by decide +kernel) rfl
theorem lk_N_150 : Cond.methodLink "GentleRoad$Planner" 150 y_W_giveWeight ∈ zT := ztc7 199 (by decide +kernel) rfl
theorem lk_N_154 : Cond.methodLink "GentleRoad$Planner" 154 y_W_left ∈ zT := ztc7 203 (by decide +kernel) rfl
end
section
variable {Ω : zO} {Γ : zM} {R : Room} {nL k n : Nat} {Q : State → Prop} {ad : Nat → Nat} {σ : zS} {pc : Nat} {lv : List (Nat × Value)} {st : List Value} {cc : ByteArray} {a : Int}
theorem fl_G_11 : Cond.fieldLink "GentleRoad$Grader" 11 (TX0 0).1 (TX0 0).2.1 (TX0 0).2.2.1 ∈ zT := ztc2 8 (by decide +kernel) rfl
theorem fl_G_15 : Cond.fieldLink "GentleRoad$Grader" 15 (TX0 1).1 (TX0 1).2.1 (TX0 1).2.2.1 ∈ zT := ztc2 9 (by decide +kernel) rfl
theorem fl_G_19 : Cond.fieldLink "GentleRoad$Grader" 19 (TX0 2).1 (TX0 2).2.1 (TX0 2).2.2.1 ∈ zT := ztc2 10 (by decide +kernel) rfl
theorem fl_G_22 : Cond.fieldLink "GentleRoad$Grader" 22 (TX0 3).1 (TX0 3).2.1 (TX0 3).2.2.1 ∈ zT := ztc2 11 (by decide +kernel) rfl
theorem pf_G_22 (cx : zC Ω Γ cc nL "GentleRoad$Grader") (ha : zR a) (hd : decode cc pc = .ok (.putfield 22, 3)) (h : zV Ω Γ R nL Q k n zLy ad (zU σ 35 3 a) (pc + 3) lv st) : zV Ω Γ R nL Q k n zLy ad σ pc lv (.int (zI a) :: .ref (ad 35) :: st) := v_puti cx 3 tyX0 tyX0_ok nmX0 zl_35 rfl rfl (by decide) inX0 fl_G_22 rfl (tyX0_ok 3 (by decide)) rfl rfl ha hd h
theorem lk_G_26 : Cond.methodLink "GentleRoad$Grader" 26 y_G_leastEarth ∈ zT := ztc7 96 (by decide +kernel) rfl
theorem gf_G_11 (cx : zC Ω Γ cc nL "GentleRoad$Grader") (hd : decode cc pc = .ok (.getfield 11, 3)) (h : zV Ω Γ R nL Q k n zLy ad σ (pc + 3) lv (.ref (ad 3) :: st)) : zV Ω Γ R nL Q k n zLy ad σ pc lv (.ref (ad 35) :: st) := v_getr cx 0 zl_35 rfl rfl (by decide) inX0 fl_G_11 hd h
theorem lk_G_30 : Cond.methodLink "GentleRoad$Grader" 30 y_L_value ∈ zT := ztc6 42 (by decide +kernel) rfl
theorem fl_G_36 : Cond.fieldLink "GentleRoad$Grader" 36 (TX0 4).1 (TX0 4).2.1 (TX0 4).2.2.1 ∈ zT := ztc2 12 (by decide +kernel) rfl
theorem pf_G_36 (cx : zC Ω Γ cc nL "GentleRoad$Grader") (ha : zR a) (hd : decode cc pc = .ok (.putfield 36, 3)) (h : zV Ω Γ R nL Q k n zLy ad (zU σ 35 4 a) (pc + 3) lv st) : zV Ω Γ R nL Q k n zLy ad σ pc lv (.int (zI a) :: .ref (ad 35) :: st) := v_puti cx 4 tyX0 tyX0_ok nmX0 zl_35 rfl rfl (by decide) inX0 fl_G_36 rfl (tyX0_ok 4 (by decide)) rfl rfl ha hd h
theorem lk_G_39 : Cond.methodLink "GentleRoad$Grader" 39 y_L_roadSize ∈ zT := ztc6 43 (by decide +kernel) rfl
theorem lk_G_42 : Cond.methodLink "GentleRoad$Grader" 42 y_G_fillPlace ∈ zT := ztc6 44 (by decide +kernel) rfl
theorem ct_G_46 : Cond.constant "GentleRoad$Grader" 46 (zI (1000000000)) ∈ zT := ztc6 66 (by decide +kernel) rfl
theorem gf_G_36 (cx : zC Ω Γ cc nL "GentleRoad$Grader") (hd : decode cc pc = .ok (.getfield 36, 3)) (h : zR (σ 35 4) → zV Ω Γ R nL Q k n zLy ad σ (pc + 3) lv (.int (zI (σ 35 4)) :: st)) : zV Ω Γ R nL Q k n zLy ad σ pc lv (.ref (ad 35) :: st) := v_geti cx 4 zl_35 rfl rfl (by decide) inX0 fl_G_36 hd h
theorem gf_G_15 (cx : zC Ω Γ cc nL "GentleRoad$Grader") (hd : decode cc pc = .ok (.getfield 15, 3)) (h : zV Ω Γ R nL Q k n zLy ad σ (pc + 3) lv (.ref (ad 36) :: st)) : zV Ω Γ R nL Q k n zLy ad σ pc lv (.ref (ad 35) :: st) := v_getr cx 1 zl_35 rfl rfl (by decide) inX0 fl_G_15 hd h
theorem lk_G_47 : Cond.methodLink "GentleRoad$Grader" 47 y_G_cell ∈ zT := ztc6 67 (by decide +kernel) rfl
theorem lk_G_51 : Cond.methodLink "GentleRoad$Grader" 51 y_G_bound ∈ zT := ztc6 48 (by decide +kernel) rfl
theorem lk_G_54 : Cond.methodLink "GentleRoad$Grader" 54 y_G_look ∈ zT := ztc6 53 (by decide +kernel) rfl
theorem lk_G_57 : Cond.methodLink "GentleRoad$Grader" 57 y_G_bestNext ∈ zT := ztc6 61 (by decide +kernel) rfl
theorem lk_G_60 : Cond.methodLink "GentleRoad$Grader" 60 y_G_earthOf ∈ zT := ztc6 70 (by decide +kernel) rfl
theorem lk_G_63 : Cond.methodLink "GentleRoad$Grader" 63 y_G_choiceShift ∈ zT := ztc6 74 (by decide +kernel) rfl
theorem gf_G_19 (cx : zC Ω Γ cc nL "GentleRoad$Grader") (hd : decode cc pc = .ok (.getfield 19, 3)) (h : zV Ω Γ R nL Q k n zLy ad σ (pc + 3) lv (.ref (ad 37) :: st)) : zV Ω Γ R nL Q k n zLy ad σ pc lv (.ref (ad 35) :: st) := v_getr cx 2 zl_35 rfl rfl (by decide) inX0 fl_G_19 hd h
theorem lk_G_66 : Cond.methodLink "GentleRoad$Grader" 66 y_L_roadPlace ∈ zT := ztc6 57 (by decide +kernel) rfl
theorem lk_G_69 : Cond.methodLink "GentleRoad$Grader" 69 y_L_height ∈ zT := ztc6 58 (by decide +kernel) rfl
theorem fl_G_72 : Cond.fieldLink "GentleRoad$Grader" 72 (TX0 5).1 (TX0 5).2.1 (TX0 5).2.2.1 ∈ zT := ztc2 13 (by decide +kernel) rfl
theorem pf_G_72 (cx : zC Ω Γ cc nL "GentleRoad$Grader") (ha : zR a) (hd : decode cc pc = .ok (.putfield 72, 3)) (h : zV Ω Γ R nL Q k n zLy ad (zU σ 35 5 a) (pc + 3) lv st) : zV Ω Γ R nL Q k n zLy ad σ pc lv (.int (zI a) :: .ref (ad 35) :: st) := v_puti cx 5 tyX0 tyX0_ok nmX0 zl_35 rfl rfl (by decide) inX0 fl_G_72 rfl (tyX0_ok 5 (by decide)) rfl rfl ha hd h
theorem lk_G_75 : Cond.methodLink "GentleRoad$Grader" 75 y_L_roadHeading ∈ zT := ztc6 59 (by decide +kernel) rfl
theorem ln_G_78 : Cond.methodLinkNest "GentleRoad$Grader" 78 y_R_longOf "GentleRoad" ∈ zNw := List.mem_of_getElem? (i := 24) rfl
theorem fl_G_81 : Cond.fieldLink "GentleRoad$Grader" 81 (TX0 6).1 (TX0 6).2.1 (TX0 6).2.2.1 ∈ zT := ztc2 14 (by decide +kernel) rfl
theorem pf_G_81 (cx : zC Ω Γ cc nL "GentleRoad$Grader") (ha : zR a) (hd : decode cc pc = .ok (.putfield 81, 3)) (h : zV Ω Γ R nL Q k n zLy ad (zU σ 35 6 a) (pc + 3) lv st) : zV Ω Γ R nL Q k n zLy ad σ pc lv (.int (zI a) :: .ref (ad 35) :: st) := v_puti cx 6 tyX0 tyX0_ok nmX0 zl_35 rfl rfl (by decide) inX0 fl_G_81 rfl (tyX0_ok 6 (by decide)) rfl rfl ha hd h
theorem fl_G_84 : Cond.fieldLink "GentleRoad$Grader" 84 (TX0 7).1 (TX0 7).2.1 (TX0 7).2.2.1 ∈ zT := ztc2 15 (by decide +kernel) rfl
theorem pf_G_84 (cx : zC Ω Γ cc nL "GentleRoad$Grader") (ha : zR a) (hd : decode cc pc = .ok (.putfield 84, 3)) (h : zV Ω Γ R nL Q k n zLy ad (zU σ 35 7 a) (pc + 3) lv st) : zV Ω Γ R nL Q k n zLy ad σ pc lv (.int (zI a) :: .ref (ad 35) :: st) := v_puti cx 7 tyX0 tyX0_ok nmX0 zl_35 rfl rfl (by decide) inX0 fl_G_84 rfl (tyX0_ok 7 (by decide)) rfl rfl ha hd h
theorem gf_G_72 (cx : zC Ω Γ cc nL "GentleRoad$Grader") (hd : decode cc pc = .ok (.getfield 72, 3)) (h : zR (σ 35 5) → zV Ω Γ R nL Q k n zLy ad σ (pc + 3) lv (.int (zI (σ 35 5)) :: st)) : zV Ω Γ R nL Q k n zLy ad σ pc lv (.ref (ad 35) :: st) := v_geti cx 5 zl_35 rfl rfl (by decide) inX0 fl_G_72 hd h
theorem gf_G_81 (cx : zC Ω Γ cc nL "GentleRoad$Grader") (hd : decode cc pc = .ok (.getfield 81, 3)) (h : zR (σ 35 6) → zV Ω Γ R nL Q k n zLy ad σ (pc + 3) lv (.int (zI (σ 35 6)) :: st)) : zV Ω Γ R nL Q k n zLy ad σ pc lv (.ref (ad 35) :: st) := v_geti cx 6 zl_35 rfl rfl (by decide) inX0 fl_G_81 hd h
theorem gf_G_84 (cx : zC Ω Γ cc nL "GentleRoad$Grader") (hd : decode cc pc = .ok (.getfield 84, 3)) (h : zR (σ 35 7) → zV Ω Γ R nL Q k n zLy ad σ (pc + 3) lv (.int (zI (σ 35 7)) :: st)) : zV Ω Γ R nL Q k n zLy ad σ pc lv (.ref (ad 35) :: st) := v_geti cx 7 zl_35 rfl rfl (by decide) inX0 fl_G_84 hd h
theorem gf_G_22 (cx : zC Ω Γ cc nL "GentleRoad$Grader") (hd : decode cc pc = .ok (.getfield 22, 3)) (h : zR (σ 35 3) → zV Ω Γ R nL Q k n zLy ad σ (pc + 3) lv (.int (zI (σ 35 3)) :: st)) : zV Ω Γ R nL Q k n zLy ad σ pc lv (.ref (ad 35) :: st) := v_geti cx 3 zl_35 rfl rfl (by decide) inX0 fl_G_22 hd h
theorem lk_G_95 : Cond.methodLink "GentleRoad$Grader" 95 y_L_setRoadOffset ∈ zT := ztc6 82 (by decide +kernel) rfl
end
section
variable {Ω : zO} {Γ : zM} {R : Room} {nL k n : Nat} {Q : State → Prop} {ad : Nat → Nat} {σ : zS} {pc : Nat} {lv : List (Nat × Value)} {st : List Value} {cc : ByteArray} {a : Int}
theorem fl_U_9 : Cond.fieldLink "GentleRoad$Survey" 9 (TX6 0).1 (TX6 0).2.1 (TX6 0).2.2.1 ∈ zT := ztc2 39 (by decide +kernel) rfl
theorem fl_U_15 : Cond.fieldLink "GentleRoad$Survey" 15 (TX6 1).1 (TX6 1).2.1 (TX6 1).2.2.1 ∈ zT := ztc2 40 (by decide +kernel) rfl
theorem fl_U_19 : Cond.fieldLink "GentleRoad$Survey" 19 (TX6 2).1 (TX6 2).2.1 (TX6 2).2.2.1 ∈ zT := ztc2 41 (by decide +kernel) rfl
theorem fl_U_23 : Cond.fieldLink "GentleRoad$Survey" 23 (TX6 3).1 (TX6 3).2.1 (TX6 3).2.2.1 ∈ zT := ztc2 42 (by decide +kernel) rfl
theorem gf_U_9 (cx : zC Ω Γ cc nL "GentleRoad$Survey") (hd : decode cc pc = .ok (.getfield 9, 3)) (h : zV Ω Γ R nL Q k n zLy ad σ (pc + 3) lv (.ref (ad 3) :: st)) : zV Ω Γ R nL Q k n zLy ad σ pc lv (.ref (ad 38) :: st) := v_getr cx 0 zl_38 rfl rfl (by decide) inX6 fl_U_9 hd h
theorem lk_U_27 : Cond.methodLink "GentleRoad$Survey" 27 y_L_roadSize ∈ zT := ztc7 21 (by decide +kernel) rfl
theorem lk_U_33 : Cond.methodLink "GentleRoad$Survey" 33 y_U_longTogether ∈ zT := ztc7 22 (by decide +kernel) rfl
theorem lk_U_36 : Cond.methodLink "GentleRoad$Survey" 36 y_U_climbed ∈ zT := ztc7 32 (by decide +kernel) rfl
theorem lk_U_40 : Cond.methodLink "GentleRoad$Survey" 40 y_U_costTogether ∈ zT := ztc7 39 (by decide +kernel) rfl
theorem lk_U_43 : Cond.methodLink "GentleRoad$Survey" 43 y_U_hairpins ∈ zT := ztc7 53 (by decide +kernel) rfl
theorem lk_U_46 : Cond.methodLink "GentleRoad$Survey" 46 y_U_firstBrokenStep ∈ zT := ztc7 58 (by decide +kernel) rfl
theorem lk_U_49 : Cond.methodLink "GentleRoad$Survey" 49 y_U_firstBrokenBend ∈ zT := ztc7 63 (by decide +kernel) rfl
theorem lk_U_52 : Cond.methodLink "GentleRoad$Survey" 52 y_U_steepest ∈ zT := ztc7 68 (by decide +kernel) rfl
theorem lk_U_55 : Cond.methodLink "GentleRoad$Survey" 55 y_U_earthTogether ∈ zT := ztc7 83 (by decide +kernel) rfl
theorem lk_U_58 : Cond.methodLink "GentleRoad$Survey" 58 y_U_offsetsTogether ∈ zT := ztc7 88 (by decide +kernel) rfl
theorem gf_U_15 (cx : zC Ω Γ cc nL "GentleRoad$Survey") (hd : decode cc pc = .ok (.getfield 15, 3)) (h : zV Ω Γ R nL Q k n zLy ad σ (pc + 3) lv (.ref (ad 35) :: st)) : zV Ω Γ R nL Q k n zLy ad σ pc lv (.ref (ad 38) :: st) := v_getr cx 1 zl_38 rfl rfl (by decide) inX6 fl_U_15 hd h
theorem lk_U_61 : Cond.methodLink "GentleRoad$Survey" 61 y_G_leastRule ∈ zT := ztc7 92 (by decide +kernel) rfl
theorem lk_U_66 : Cond.methodLink "GentleRoad$Survey" 66 y_U_greatestLevel ∈ zT := ztc7 97 (by decide +kernel) rfl
theorem lk_U_69 : Cond.methodLink "GentleRoad$Survey" 69 y_U_longestStraight ∈ zT := ztc7 102 (by decide +kernel) rfl
theorem lk_U_72 : Cond.methodLink "GentleRoad$Survey" 72 y_U_steps ∈ zT := ztc7 26 (by decide +kernel) rfl
theorem lk_U_75 : Cond.methodLink "GentleRoad$Survey" 75 y_L_roadHeading ∈ zT := ztc7 30 (by decide +kernel) rfl
theorem ln_U_78 : Cond.methodLinkNest "GentleRoad$Survey" 78 y_R_longOf "GentleRoad" ∈ zNw := List.mem_of_getElem? (i := 25) rfl
theorem lk_U_81 : Cond.methodLink "GentleRoad$Survey" 81 y_L_roadPlace ∈ zT := ztc7 36 (by decide +kernel) rfl
theorem lk_U_84 : Cond.methodLink "GentleRoad$Survey" 84 y_L_height ∈ zT := ztc7 37 (by decide +kernel) rfl
theorem ln_U_92 : Cond.methodLinkNest "GentleRoad$Survey" 92 y_R_eighths "GentleRoad" ∈ zNw := List.mem_of_getElem? (i := 26) rfl
theorem lk_U_95 : Cond.methodLink "GentleRoad$Survey" 95 y_L_stepCost ∈ zT := ztc7 43 (by decide +kernel) rfl
theorem lk_U_98 : Cond.methodLink "GentleRoad$Survey" 98 y_U_bendAt ∈ zT := ztc7 47 (by decide +kernel) rfl
theorem lk_U_101 : Cond.methodLink "GentleRoad$Survey" 101 y_L_bendCost ∈ zT := ztc7 52 (by decide +kernel) rfl
theorem lk_U_104 : Cond.methodLink "GentleRoad$Survey" 104 y_L_value ∈ zT := ztc7 57 (by decide +kernel) rfl
theorem lk_U_107 : Cond.methodLink "GentleRoad$Survey" 107 y_L_canStep ∈ zT := ztc7 62 (by decide +kernel) rfl
theorem lk_U_111 : Cond.methodLink "GentleRoad$Survey" 111 y_L_isFlat ∈ zT := ztc7 67 (by decide +kernel) rfl
theorem lk_U_115 : Cond.methodLink "GentleRoad$Survey" 115 y_L_roadOffset ∈ zT := ztc7 76 (by decide +kernel) rfl
theorem lk_U_118 : Cond.methodLink "GentleRoad$Survey" 118 y_U_levelAt ∈ zT := ztc7 72 (by decide +kernel) rfl
theorem lk_U_124 : Cond.methodLink "GentleRoad$Survey" 124 y_G_earthOf ∈ zT := ztc7 87 (by decide +kernel) rfl
theorem ct_U_127 : Cond.constant "GentleRoad$Survey" 127 (zI (-1000000000)) ∈ zT := ztc7 101 (by decide +kernel) rfl
theorem gf_U_19 (cx : zC Ω Γ cc nL "GentleRoad$Survey") (hd : decode cc pc = .ok (.getfield 19, 3)) (h : zV Ω Γ R nL Q k n zLy ad σ (pc + 3) lv (.ref (ad 11) :: st)) : zV Ω Γ R nL Q k n zLy ad σ pc lv (.ref (ad 38) :: st) := v_getr cx 2 zl_38 rfl rfl (by decide) inX6 fl_U_19 hd h
theorem lk_U_128 : Cond.methodLink "GentleRoad$Survey" 128 y_S_gather ∈ zT := ztc7 161 (by decide +kernel) rfl
theorem gf_U_23 (cx : zC Ω Γ cc nL "GentleRoad$Survey") (hd : decode cc pc = .ok (.getfield 23, 3)) (h : zV Ω Γ R nL Q k n zLy ad σ (pc + 3) lv (.ref (ad 39) :: st)) : zV Ω Γ R nL Q k n zLy ad σ pc lv (.ref (ad 38) :: st) := v_getr cx 3 zl_38 rfl rfl (by decide) inX6 fl_U_23 hd h
theorem lk_U_139 : Cond.methodLink "GentleRoad$Survey" 139 y_S_catchOf ∈ zT := ztc7 163 (by decide +kernel) rfl
theorem lk_U_142 : Cond.methodLink "GentleRoad$Survey" 142 y_U_partsWithin ∈ zT := ztc7 219 (by decide +kernel) rfl
theorem ln_U_145 : Cond.methodLinkNest "GentleRoad$Survey" 145 y_R_opposite "GentleRoad" ∈ zNw := List.mem_of_getElem? (i := 28) rfl
end
section
variable {Ω : zO} {Γ : zM} {R : Room} {nL k n : Nat} {Q : State → Prop} {ad : Nat → Nat} {σ : zS} {pc : Nat} {lv : List (Nat × Value)} {st : List Value} {cc : ByteArray} {a : Int}
theorem fl_R_12 : Cond.fieldLink "GentleRoad" 12 (TX10 0).1 (TX10 0).2.1 (TX10 0).2.2.1 ∈ zT := ztc2 52 (by decide +kernel) rfl
theorem fl_R_19 : Cond.fieldLink "GentleRoad" 19 (TX10 1).1 (TX10 1).2.1 (TX10 1).2.2.1 ∈ zT := ztc2 53 (by decide +kernel) rfl
theorem gf_R_12 (cx : zC Ω Γ cc nL "GentleRoad") (hd : decode cc pc = .ok (.getfield 12, 3)) (h : zV Ω Γ R nL Q k n zLy ad σ (pc + 3) lv (.ref (ad 1) :: st)) : zV Ω Γ R nL Q k n zLy ad σ pc lv (.ref (ad 0) :: st) := v_getr cx 0 zl_0 rfl rfl (by decide) inX10 fl_R_12 hd h
theorem fl_R_28 : Cond.fieldLink "GentleRoad" 28 (TX10 2).1 (TX10 2).2.1 (TX10 2).2.2.1 ∈ zT := ztc2 54 (by decide +kernel) rfl
theorem fl_R_35 : Cond.fieldLink "GentleRoad" 35 (TX10 3).1 (TX10 3).2.1 (TX10 3).2.2.1 ∈ zT := ztc2 55 (by decide +kernel) rfl
theorem gf_R_19 (cx : zC Ω Γ cc nL "GentleRoad") (hd : decode cc pc = .ok (.getfield 19, 3)) (h : zV Ω Γ R nL Q k n zLy ad σ (pc + 3) lv (.ref (ad 3) :: st)) : zV Ω Γ R nL Q k n zLy ad σ pc lv (.ref (ad 0) :: st) := v_getr cx 1 zl_0 rfl rfl (by decide) inX10 fl_R_19 hd h
theorem fl_R_44 : Cond.fieldLink "GentleRoad" 44 (TX10 4).1 (TX10 4).2.1 (TX10 4).2.2.1 ∈ zT := ztc2 56 (by decide +kernel) rfl
theorem gf_R_44 (cx : zC Ω Γ cc nL "GentleRoad") (hd : decode cc pc = .ok (.getfield 44, 3)) (h : zV Ω Γ R nL Q k n zLy ad σ (pc + 3) lv (.ref (ad 11) :: st)) : zV Ω Γ R nL Q k n zLy ad σ pc lv (.ref (ad 0) :: st) := v_getr cx 4 zl_0 rfl rfl (by decide) inX10 fl_R_44 hd h
theorem fl_R_53 : Cond.fieldLink "GentleRoad" 53 (TX10 5).1 (TX10 5).2.1 (TX10 5).2.2.1 ∈ zT := ztc2 57 (by decide +kernel) rfl
theorem gf_R_53 (cx : zC Ω Γ cc nL "GentleRoad") (hd : decode cc pc = .ok (.getfield 53, 3)) (h : zV Ω Γ R nL Q k n zLy ad σ (pc + 3) lv (.ref (ad 15) :: st)) : zV Ω Γ R nL Q k n zLy ad σ pc lv (.ref (ad 0) :: st) := v_getr cx 5 zl_0 rfl rfl (by decide) inX10 fl_R_53 hd h
theorem fl_R_62 : Cond.fieldLink "GentleRoad" 62 (TX10 6).1 (TX10 6).2.1 (TX10 6).2.2.1 ∈ zT := ztc2 58 (by decide +kernel) rfl
theorem fl_R_69 : Cond.fieldLink "GentleRoad" 69 (TX10 7).1 (TX10 7).2.1 (TX10 7).2.2.1 ∈ zT := ztc2 59 (by decide +kernel) rfl
theorem gf_R_69 (cx : zC Ω Γ cc nL "GentleRoad") (hd : decode cc pc = .ok (.getfield 69, 3)) (h : zV Ω Γ R nL Q k n zLy ad σ (pc + 3) lv (.ref (ad 35) :: st)) : zV Ω Γ R nL Q k n zLy ad σ pc lv (.ref (ad 0) :: st) := v_getr cx 7 zl_0 rfl rfl (by decide) inX10 fl_R_69 hd h
theorem fl_R_78 : Cond.fieldLink "GentleRoad" 78 (TX10 8).1 (TX10 8).2.1 (TX10 8).2.2.1 ∈ zT := ztc2 60 (by decide +kernel) rfl
theorem fl_R_82 : Cond.fieldLink "GentleRoad" 82 (TX10 9).1 (TX10 9).2.1 (TX10 9).2.2.1 ∈ zT := ztc2 61 (by decide +kernel) rfl
theorem fl_R_86 : Cond.fieldLink "GentleRoad" 86 (TX10 10).1 (TX10 10).2.1 (TX10 10).2.2.1 ∈ zT := ztc2 62 (by decide +kernel) rfl
theorem pf_R_86 (cx : zC Ω Γ cc nL "GentleRoad") (ha : a = 0 ∨ a = 1) (hd : decode cc pc = .ok (.putfield 86, 3)) (h : zV Ω Γ R nL Q k n zLy ad (zU σ 0 10 a) (pc + 3) lv st) : zV Ω Γ R nL Q k n zLy ad σ pc lv (.int (zI a) :: .ref (ad 0) :: st) := v_puti cx 10 tyX10 tyX10_ok nmX10 zl_0 rfl rfl (by decide) inX10 fl_R_86 rfl (tyX10_ok 10 (by decide)) (by rcases ha with rfl | rfl <;> rfl) (by rcases ha with rfl | rfl <;> rfl) (by rcases ha with rfl | rfl <;> exact ⟨by decide, by decide⟩) hd h
theorem fl_R_90 : Cond.fieldLink "GentleRoad" 90 (TX10 11).1 (TX10 11).2.1 (TX10 11).2.2.1 ∈ zT := ztc2 63 (by decide +kernel) rfl
theorem pf_R_90 (cx : zC Ω Γ cc nL "GentleRoad") (ha : zR a) (hd : decode cc pc = .ok (.putfield 90, 3)) (h : zV Ω Γ R nL Q k n zLy ad (zU σ 0 11 a) (pc + 3) lv st) : zV Ω Γ R nL Q k n zLy ad σ pc lv (.int (zI a) :: .ref (ad 0) :: st) := v_puti cx 11 tyX10 tyX10_ok nmX10 zl_0 rfl rfl (by decide) inX10 fl_R_90 rfl (tyX10_ok 11 (by decide)) rfl rfl ha hd h
theorem lk_R_94 : Cond.methodLink "GentleRoad" 94 y_T_hasRoom ∈ zT := ztc2 93 (by decide +kernel) rfl
theorem lk_R_98 : Cond.methodLink "GentleRoad" 98 y_T_add ∈ zT := ztc2 97 (by decide +kernel) rfl
theorem lk_R_102 : Cond.methodLink "GentleRoad" 102 y_T_size ∈ zT := ztc2 101 (by decide +kernel) rfl
theorem lk_R_106 : Cond.methodLink "GentleRoad" 106 y_T_cut ∈ zT := ztc2 109 (by decide +kernel) rfl
theorem gf_R_28 (cx : zC Ω Γ cc nL "GentleRoad") (hd : decode cc pc = .ok (.getfield 28, 3)) (h : zV Ω Γ R nL Q k n zLy ad σ (pc + 3) lv (.ref (ad 6) :: st)) : zV Ω Γ R nL Q k n zLy ad σ pc lv (.ref (ad 0) :: st) := v_getr cx 2 zl_0 rfl rfl (by decide) inX10 fl_R_28 hd h
theorem lk_R_110 : Cond.methodLink "GentleRoad" 110 y_X_read ∈ zT := ztc2 212 (by decide +kernel) rfl
theorem gf_R_90 (cx : zC Ω Γ cc nL "GentleRoad") (hd : decode cc pc = .ok (.getfield 90, 3)) (h : zR (σ 0 11) → zV Ω Γ R nL Q k n zLy ad σ (pc + 3) lv (.int (zI (σ 0 11)) :: st)) : zV Ω Γ R nL Q k n zLy ad σ pc lv (.ref (ad 0) :: st) := v_geti cx 11 zl_0 rfl rfl (by decide) inX10 fl_R_90 hd h
theorem lk_R_120 : Cond.methodLink "GentleRoad" 120 y_X_told ∈ zT := ztc3 163 (by decide +kernel) rfl
theorem lk_R_124 : Cond.methodLink "GentleRoad" 124 y_L_take ∈ zT := ztc2 129 (by decide +kernel) rfl
theorem gf_R_35 (cx : zC Ω Γ cc nL "GentleRoad") (hd : decode cc pc = .ok (.getfield 35, 3)) (h : zV Ω Γ R nL Q k n zLy ad σ (pc + 3) lv (.ref (ad 9) :: st)) : zV Ω Γ R nL Q k n zLy ad σ pc lv (.ref (ad 0) :: st) := v_getr cx 3 zl_0 rfl rfl (by decide) inX10 fl_R_35 hd h
theorem lk_R_128 : Cond.methodLink "GentleRoad" 128 y_P_forget ∈ zT := ztc2 153 (by decide +kernel) rfl
theorem lk_R_131 : Cond.methodLink "GentleRoad" 131 y_L_places ∈ zT := ztc3 167 (by decide +kernel) rfl
theorem lk_R_134 : Cond.methodLink "GentleRoad" 134 y_R_needPlace ∈ zT := ztc3 177 (by decide +kernel) rfl
theorem lk_R_137 : Cond.methodLink "GentleRoad" 137 y_R_needAnswer ∈ zT := ztc3 197 (by decide +kernel) rfl
theorem lk_R_141 : Cond.methodLink "GentleRoad" 141 y_L_height ∈ zT := ztc3 217 (by decide +kernel) rfl
theorem lk_R_145 : Cond.methodLink "GentleRoad" 145 y_L_isWet ∈ zT := ztc3 218 (by decide +kernel) rfl
theorem lk_R_148 : Cond.methodLink "GentleRoad" 148 y_L_isFlat ∈ zT := ztc3 222 (by decide +kernel) rfl
theorem lk_R_151 : Cond.methodLink "GentleRoad" 151 y_L_stepBits ∈ zT := ztc3 235 (by decide +kernel) rfl
theorem lk_R_154 : Cond.methodLink "GentleRoad" 154 y_L_value ∈ zT := ztc4 22 (by decide +kernel) rfl
theorem lk_R_163 : Cond.methodLink "GentleRoad" 163 y_R_needNumber ∈ zT := ztc4 32 (by decide +kernel) rfl
theorem lk_R_167 : Cond.methodLink "GentleRoad" 167 y_R_remember ∈ zT := ztc4 37 (by decide +kernel) rfl
theorem lk_R_170 : Cond.methodLink "GentleRoad" 170 y_L_setValue ∈ zT := ztc4 50 (by decide +kernel) rfl
theorem lk_R_173 : Cond.methodLink "GentleRoad" 173 y_L_setHeight ∈ zT := ztc4 61 (by decide +kernel) rfl
theorem lk_R_176 : Cond.methodLink "GentleRoad" 176 y_L_setWet ∈ zT := ztc4 72 (by decide +kernel) rfl
theorem lk_R_180 : Cond.methodLink "GentleRoad" 180 y_R_needRoad ∈ zT := ztc4 84 (by decide +kernel) rfl
theorem lk_R_183 : Cond.methodLink "GentleRoad" 183 y_R_needPair ∈ zT := ztc4 89 (by decide +kernel) rfl
theorem lk_R_186 : Cond.methodLink "GentleRoad" 186 y_R_needUnlike ∈ zT := ztc4 93 (by decide +kernel) rfl
theorem lk_R_189 : Cond.methodLink "GentleRoad" 189 y_W_find ∈ zT := ztc4 98 (by decide +kernel) rfl
theorem lk_R_193 : Cond.methodLink "GentleRoad" 193 y_W_pathSize ∈ zT := ztc5 224 (by decide +kernel) rfl
theorem lk_R_201 : Cond.methodLink "GentleRoad" 201 y_W_path ∈ zT := ztc6 3 (by decide +kernel) rfl
theorem lk_R_204 : Cond.methodLink "GentleRoad" 204 y_L_setRoad ∈ zT := ztc6 7 (by decide +kernel) rfl
theorem lk_R_208 : Cond.methodLink "GentleRoad" 208 y_R_needBuilt ∈ zT := ztc6 23 (by decide +kernel) rfl
theorem lk_R_211 : Cond.methodLink "GentleRoad" 211 y_L_roadSize ∈ zT := ztc6 29 (by decide +kernel) rfl
theorem lk_R_214 : Cond.methodLink "GentleRoad" 214 y_L_clearRoad ∈ zT := ztc6 30 (by decide +kernel) rfl
theorem lk_R_217 : Cond.methodLink "GentleRoad" 217 y_G_leastEarth ∈ zT := ztc6 38 (by decide +kernel) rfl
theorem lk_R_223 : Cond.methodLink "GentleRoad" 223 y_G_settle ∈ zT := ztc6 78 (by decide +kernel) rfl
theorem lk_R_226 : Cond.methodLink "GentleRoad" 226 y_P_size ∈ zT := ztc2 183 (by decide +kernel) rfl
theorem lk_R_229 : Cond.methodLink "GentleRoad" 229 y_P_takeBack ∈ zT := ztc6 94 (by decide +kernel) rfl
theorem lk_R_232 : Cond.methodLink "GentleRoad" 232 y_W_measure ∈ zT := ztc6 106 (by decide +kernel) rfl
theorem gf_R_62 (cx : zC Ω Γ cc nL "GentleRoad") (hd : decode cc pc = .ok (.getfield 62, 3)) (h : zV Ω Γ R nL Q k n zLy ad σ (pc + 3) lv (.ref (ad 28) :: st)) : zV Ω Γ R nL Q k n zLy ad σ pc lv (.ref (ad 0) :: st) := v_getr cx 6 zl_0 rfl rfl (by decide) inX10 fl_R_62 hd h
theorem lk_R_235 : Cond.methodLink "GentleRoad" 235 y_N_reached ∈ zT := ztc6 124 (by decide +kernel) rfl
theorem lk_R_238 : Cond.methodLink "GentleRoad" 238 y_N_leastGrade ∈ zT := ztc6 146 (by decide +kernel) rfl
theorem lk_R_241 : Cond.methodLink "GentleRoad" 241 y_N_firstGate ∈ zT := ztc6 161 (by decide +kernel) rfl
theorem lk_R_244 : Cond.methodLink "GentleRoad" 244 y_W_measureBored ∈ zT := ztc6 188 (by decide +kernel) rfl
theorem lk_R_247 : Cond.methodLink "GentleRoad" 247 y_N_clearSums ∈ zT := ztc6 199 (by decide +kernel) rfl
theorem lk_R_250 : Cond.methodLink "GentleRoad" 250 y_N_addCosts ∈ zT := ztc6 203 (by decide +kernel) rfl
theorem lk_R_253 : Cond.methodLink "GentleRoad" 253 y_N_leastSumPlace ∈ zT := ztc6 216 (by decide +kernel) rfl
theorem lk_R_256 : Cond.methodLink "GentleRoad" 256 y_N_sumAt ∈ zT := ztc6 220 (by decide +kernel) rfl
theorem lk_R_259 : Cond.methodLink "GentleRoad" 259 y_N_takeRound ∈ zT := ztc6 231 (by decide +kernel) rfl
theorem lk_R_265 : Cond.methodLink "GentleRoad" 265 y_N_leastRound ∈ zT := ztc6 237 (by decide +kernel) rfl
theorem gf_R_78 (cx : zC Ω Γ cc nL "GentleRoad") (hd : decode cc pc = .ok (.getfield 78, 3)) (h : zV Ω Γ R nL Q k n zLy ad σ (pc + 3) lv (.ref (ad 38) :: st)) : zV Ω Γ R nL Q k n zLy ad σ pc lv (.ref (ad 0) :: st) := v_getr cx 8 zl_0 rfl rfl (by decide) inX10 fl_R_78 hd h
theorem lk_R_268 : Cond.methodLink "GentleRoad" 268 y_U_answer ∈ zT := ztc7 17 (by decide +kernel) rfl
theorem lk_R_271 : Cond.methodLink "GentleRoad" 271 y_L_roadOffset ∈ zT := ztc7 113 (by decide +kernel) rfl
theorem lk_R_274 : Cond.methodLink "GentleRoad" 274 y_L_roadPlace ∈ zT := ztc7 114 (by decide +kernel) rfl
theorem lk_R_277 : Cond.methodLink "GentleRoad" 277 y_S_runOf ∈ zT := ztc7 129 (by decide +kernel) rfl
theorem lk_R_280 : Cond.methodLink "GentleRoad" 280 y_S_gather ∈ zT := ztc7 130 (by decide +kernel) rfl
theorem lk_R_283 : Cond.methodLink "GentleRoad" 283 y_S_catchOf ∈ zT := ztc7 131 (by decide +kernel) rfl
theorem lk_R_286 : Cond.methodLink "GentleRoad" 286 y_S_spillOf ∈ zT := ztc7 132 (by decide +kernel) rfl
theorem lk_R_289 : Cond.methodLink "GentleRoad" 289 y_U_bridgesOver ∈ zT := ztc7 157 (by decide +kernel) rfl
theorem lk_R_292 : Cond.methodLink "GentleRoad" 292 y_N_joiningIndex ∈ zT := ztc7 171 (by decide +kernel) rfl
theorem lk_R_295 : Cond.methodLink "GentleRoad" 295 y_W_costBetween ∈ zT := ztc7 177 (by decide +kernel) rfl
theorem lk_R_298 : Cond.methodLink "GentleRoad" 298 y_N_dearestStep ∈ zT := ztc7 185 (by decide +kernel) rfl
theorem lk_R_301 : Cond.methodLink "GentleRoad" 301 y_N_dearestCost ∈ zT := ztc7 204 (by decide +kernel) rfl
theorem lk_R_304 : Cond.methodLink "GentleRoad" 304 y_U_leastStage ∈ zT := ztc7 215 (by decide +kernel) rfl
theorem lk_R_307 : Cond.methodLink "GentleRoad" 307 y_U_shared ∈ zT := ztc7 230 (by decide +kernel) rfl
theorem gf_R_82 (cx : zC Ω Γ cc nL "GentleRoad") (hd : decode cc pc = .ok (.getfield 82, 3)) (h : zV Ω Γ R nL Q k n zLy ad σ (pc + 3) lv (.ref (ad 40) :: st)) : zV Ω Γ R nL Q k n zLy ad σ pc lv (.ref (ad 0) :: st) := v_getr cx 9 zl_0 rfl rfl (by decide) inX10 fl_R_82 hd h
theorem lk_R_310 : Cond.methodLink "GentleRoad" 310 y_L_copyTo ∈ zT := ztc2 121 (by decide +kernel) rfl
theorem gf_R_86 (cx : zC Ω Γ cc nL "GentleRoad") (hd : decode cc pc = .ok (.getfield 86, 3)) (h : zR (σ 0 10) → zV Ω Γ R nL Q k n zLy ad σ (pc + 3) lv (.int (zI (σ 0 10)) :: st)) : zV Ω Γ R nL Q k n zLy ad σ pc lv (.ref (ad 0) :: st) := v_geti cx 10 zl_0 rfl rfl (by decide) inX10 fl_R_86 hd h
theorem lk_R_313 : Cond.methodLink "GentleRoad" 313 y_L_wide ∈ zT := ztc2 161 (by decide +kernel) rfl
theorem lk_R_316 : Cond.methodLink "GentleRoad" 316 y_L_deep ∈ zT := ztc2 162 (by decide +kernel) rfl
theorem lk_R_319 : Cond.methodLink "GentleRoad" 319 y_L_wetPlaces ∈ zT := ztc2 163 (by decide +kernel) rfl
theorem lk_R_322 : Cond.methodLink "GentleRoad" 322 y_L_builtBits ∈ zT := ztc2 171 (by decide +kernel) rfl
theorem lk_R_325 : Cond.methodLink "GentleRoad" 325 y_S_sinks ∈ zT := ztc2 187 (by decide +kernel) rfl
theorem lk_R_328 : Cond.methodLink "GentleRoad" 328 y_P_remember ∈ zT := ztc4 41 (by decide +kernel) rfl
theorem lk_R_344 : Cond.methodLink "GentleRoad" 344 y_L_isBuilt ∈ zT := ztc6 27 (by decide +kernel) rfl
end
section
variable {Ω : zO} {Γ : zM} {R : Room} {nL k n : Nat} {Q : State → Prop} {ad : Nat → Nat} {σ : zS} {pc : Nat} {lv : List (Nat × Value)} {st : List Value} {cc : ByteArray} {a : Int}
theorem fl_M_7 : Cond.fieldLink "GentleRoadModel" 7 (TX11 1).1 (TX11 1).2.1 (TX11 1).2.2.1 ∈ zT := ztc8 3 (by decide +kernel) rfl
theorem fl_M_13 : Cond.fieldLink "GentleRoadModel" 13 (TX11 2).1 (TX11 2).2.1 (TX11 2).2.2.1 ∈ zT := ztc8 4 (by decide +kernel) rfl
theorem fl_M_16 : Cond.fieldLink "GentleRoadModel" 16 (TX11 4).1 (TX11 4).2.1 (TX11 4).2.2.1 ∈ zT := ztc8 6 (by decide +kernel) rfl
theorem fl_M_19 : Cond.fieldLink "GentleRoadModel" 19 (TX11 6).1 (TX11 6).2.1 (TX11 6).2.2.1 ∈ zT := ztc8 8 (by decide +kernel) rfl
theorem fl_M_22 : Cond.fieldLink "GentleRoadModel" 22 (TX11 7).1 (TX11 7).2.1 (TX11 7).2.2.1 ∈ zT := ztc8 9 (by decide +kernel) rfl
theorem fl_M_25 : Cond.fieldLink "GentleRoadModel" 25 (TX11 8).1 (TX11 8).2.1 (TX11 8).2.2.1 ∈ zT := ztc8 10 (by decide +kernel) rfl
theorem fl_M_28 : Cond.fieldLink "GentleRoadModel" 28 (TX11 9).1 (TX11 9).2.1 (TX11 9).2.2.1 ∈ zT := ztc8 11 (by decide +kernel) rfl
theorem fl_M_31 : Cond.fieldLink "GentleRoadModel" 31 (TX11 10).1 (TX11 10).2.1 (TX11 10).2.2.1 ∈ zT := ztc8 12 (by decide +kernel) rfl
theorem fl_M_34 : Cond.fieldLink "GentleRoadModel" 34 (TX11 14).1 (TX11 14).2.1 (TX11 14).2.2.1 ∈ zT := ztc8 16 (by decide +kernel) rfl
theorem pf_M_34 (cx : zC Ω Γ cc nL "GentleRoadModel") (ha : zR a) (hd : decode cc pc = .ok (.putfield 34, 3)) (h : zV Ω Γ R nL Q k n zLy ad (zU σ 41 14 a) (pc + 3) lv st) : zV Ω Γ R nL Q k n zLy ad σ pc lv (.int (zI a) :: .ref (ad 41) :: st) := v_puti cx 14 tyX11 tyX11_ok nmX11 zl_41 rfl rfl (by decide) inX11 fl_M_34 rfl (tyX11_ok 14 (by decide)) rfl rfl ha hd h
theorem fl_M_38 : Cond.fieldLink "GentleRoadModel" 38 (TX11 15).1 (TX11 15).2.1 (TX11 15).2.2.1 ∈ zT := ztc8 17 (by decide +kernel) rfl
theorem fl_M_41 : Cond.fieldLink "GentleRoadModel" 41 (TX11 16).1 (TX11 16).2.1 (TX11 16).2.2.1 ∈ zT := ztc8 18 (by decide +kernel) rfl
theorem fl_M_44 : Cond.fieldLink "GentleRoadModel" 44 (TX11 17).1 (TX11 17).2.1 (TX11 17).2.2.1 ∈ zT := ztc8 19 (by decide +kernel) rfl
theorem fl_M_47 : Cond.fieldLink "GentleRoadModel" 47 (TX11 18).1 (TX11 18).2.1 (TX11 18).2.2.1 ∈ zT := ztc8 20 (by decide +kernel) rfl
theorem fl_M_50 : Cond.fieldLink "GentleRoadModel" 50 (TX11 19).1 (TX11 19).2.1 (TX11 19).2.2.1 ∈ zT := ztc8 21 (by decide +kernel) rfl
theorem ct_M_53 : Cond.constant "GentleRoadModel" 53 (zI (68880)) ∈ zT := ztc8 1 (by decide +kernel) rfl
theorem fl_M_54 : Cond.fieldLink "GentleRoadModel" 54 (TX11 21).1 (TX11 21).2.1 (TX11 21).2.2.1 ∈ zT := ztc8 23 (by decide +kernel) rfl
theorem fl_M_57 : Cond.fieldLink "GentleRoadModel" 57 (TX11 22).1 (TX11 22).2.1 (TX11 22).2.2.1 ∈ zT := ztc8 24 (by decide +kernel) rfl
theorem fl_M_60 : Cond.fieldLink "GentleRoadModel" 60 (TX11 23).1 (TX11 23).2.1 (TX11 23).2.2.1 ∈ zT := ztc8 25 (by decide +kernel) rfl
theorem fl_M_63 : Cond.fieldLink "GentleRoadModel" 63 (TX11 25).1 (TX11 25).2.1 (TX11 25).2.2.1 ∈ zT := ztc8 27 (by decide +kernel) rfl
theorem fl_M_66 : Cond.fieldLink "GentleRoadModel" 66 (TX11 27).1 (TX11 27).2.1 (TX11 27).2.2.1 ∈ zT := ztc8 29 (by decide +kernel) rfl
theorem fl_M_69 : Cond.fieldLink "GentleRoadModel" 69 (TX11 28).1 (TX11 28).2.1 (TX11 28).2.2.1 ∈ zT := ztc8 30 (by decide +kernel) rfl
theorem pf_M_69 (cx : zC Ω Γ cc nL "GentleRoadModel") (ha : zR a) (hd : decode cc pc = .ok (.putfield 69, 3)) (h : zV Ω Γ R nL Q k n zLy ad (zU σ 41 28 a) (pc + 3) lv st) : zV Ω Γ R nL Q k n zLy ad σ pc lv (.int (zI a) :: .ref (ad 41) :: st) := v_puti cx 28 tyX11 tyX11_ok nmX11 zl_41 rfl rfl (by decide) inX11 fl_M_69 rfl (tyX11_ok 28 (by decide)) rfl rfl ha hd h
theorem fl_M_72 : Cond.fieldLink "GentleRoadModel" 72 (TX11 29).1 (TX11 29).2.1 (TX11 29).2.2.1 ∈ zT := ztc8 31 (by decide +kernel) rfl
theorem pf_M_72 (cx : zC Ω Γ cc nL "GentleRoadModel") (ha : zR a) (hd : decode cc pc = .ok (.putfield 72, 3)) (h : zV Ω Γ R nL Q k n zLy ad (zU σ 41 29 a) (pc + 3) lv st) : zV Ω Γ R nL Q k n zLy ad σ pc lv (.int (zI a) :: .ref (ad 41) :: st) := v_puti cx 29 tyX11 tyX11_ok nmX11 zl_41 rfl rfl (by decide) inX11 fl_M_72 rfl (tyX11_ok 29 (by decide)) rfl rfl ha hd h
theorem fl_M_75 : Cond.fieldLink "GentleRoadModel" 75 (TX11 30).1 (TX11 30).2.1 (TX11 30).2.2.1 ∈ zT := ztc8 32 (by decide +kernel) rfl
theorem fl_M_78 : Cond.fieldLink "GentleRoadModel" 78 (TX11 31).1 (TX11 31).2.1 (TX11 31).2.2.1 ∈ zT := ztc8 33 (by decide +kernel) rfl
theorem fl_M_81 : Cond.fieldLink "GentleRoadModel" 81 (TX11 32).1 (TX11 32).2.1 (TX11 32).2.2.1 ∈ zT := ztc8 34 (by decide +kernel) rfl
theorem fl_M_84 : Cond.fieldLink "GentleRoadModel" 84 (TX11 33).1 (TX11 33).2.1 (TX11 33).2.2.1 ∈ zT := ztc8 35 (by decide +kernel) rfl
theorem gf_M_7 (cx : zC Ω Γ cc nL "GentleRoadModel") (hd : decode cc pc = .ok (.getfield 7, 3)) (h : zV Ω Γ R nL Q k n zLy ad σ (pc + 3) lv (.ref (ad 42) :: st)) : zV Ω Γ R nL Q k n zLy ad σ pc lv (.ref (ad 41) :: st) := v_getr cx 1 zl_41 rfl rfl (by decide) inX11 fl_M_7 hd h
theorem gf_M_19 (cx : zC Ω Γ cc nL "GentleRoadModel") (hd : decode cc pc = .ok (.getfield 19, 3)) (h : zV Ω Γ R nL Q k n zLy ad σ (pc + 3) lv (.ref (ad 45) :: st)) : zV Ω Γ R nL Q k n zLy ad σ pc lv (.ref (ad 41) :: st) := v_getr cx 6 zl_41 rfl rfl (by decide) inX11 fl_M_19 hd h
theorem fl_M_87 : Cond.fieldLink "GentleRoadModel" 87 (TX11 0).1 (TX11 0).2.1 (TX11 0).2.2.1 ∈ zT := ztc8 2 (by decide +kernel) rfl
theorem gf_M_87 (cx : zC Ω Γ cc nL "GentleRoadModel") (hd : decode cc pc = .ok (.getfield 87, 3)) (h : zR (σ 41 0) → zV Ω Γ R nL Q k n zLy ad σ (pc + 3) lv (.int (zI (σ 41 0)) :: st)) : zV Ω Γ R nL Q k n zLy ad σ pc lv (.ref (ad 41) :: st) := v_geti cx 0 zl_41 rfl rfl (by decide) inX11 fl_M_87 hd h
theorem lk_M_90 : Cond.methodLink "GentleRoadModel" 90 y_M_places ∈ zT := ztc8 120 (by decide +kernel) rfl
theorem lk_M_94 : Cond.methodLink "GentleRoadModel" 94 y_M_isIn ∈ zT := ztc8 124 (by decide +kernel) rfl
theorem gf_M_25 (cx : zC Ω Γ cc nL "GentleRoadModel") (hd : decode cc pc = .ok (.getfield 25, 3)) (h : zV Ω Γ R nL Q k n zLy ad σ (pc + 3) lv (.ref (ad 47) :: st)) : zV Ω Γ R nL Q k n zLy ad σ pc lv (.ref (ad 41) :: st) := v_getr cx 8 zl_41 rfl rfl (by decide) inX11 fl_M_25 hd h
theorem gf_M_28 (cx : zC Ω Γ cc nL "GentleRoadModel") (hd : decode cc pc = .ok (.getfield 28, 3)) (h : zV Ω Γ R nL Q k n zLy ad σ (pc + 3) lv (.ref (ad 48) :: st)) : zV Ω Γ R nL Q k n zLy ad σ pc lv (.ref (ad 41) :: st) := v_getr cx 9 zl_41 rfl rfl (by decide) inX11 fl_M_28 hd h
theorem lk_M_98 : Cond.methodLink "GentleRoadModel" 98 y_M_apart ∈ zT := ztc9 9 (by decide +kernel) rfl
theorem lk_M_102 : Cond.methodLink "GentleRoadModel" 102 y_M_beside ∈ zT := ztc8 131 (by decide +kernel) rfl
theorem lk_M_105 : Cond.methodLink "GentleRoadModel" 105 y_M_differ ∈ zT := ztc9 5 (by decide +kernel) rfl
theorem lk_M_108 : Cond.methodLink "GentleRoadModel" 108 y_M_longOf ∈ zT := ztc9 28 (by decide +kernel) rfl
theorem lk_M_112 : Cond.methodLink "GentleRoadModel" 112 y_M_isWet ∈ zT := ztc9 20 (by decide +kernel) rfl
theorem gf_M_69 (cx : zC Ω Γ cc nL "GentleRoadModel") (hd : decode cc pc = .ok (.getfield 69, 3)) (h : zR (σ 41 28) → zV Ω Γ R nL Q k n zLy ad σ (pc + 3) lv (.int (zI (σ 41 28)) :: st)) : zV Ω Γ R nL Q k n zLy ad σ pc lv (.ref (ad 41) :: st) := v_geti cx 28 zl_41 rfl rfl (by decide) inX11 fl_M_69 hd h
theorem gf_M_72 (cx : zC Ω Γ cc nL "GentleRoadModel") (hd : decode cc pc = .ok (.getfield 72, 3)) (h : zR (σ 41 29) → zV Ω Γ R nL Q k n zLy ad σ (pc + 3) lv (.int (zI (σ 41 29)) :: st)) : zV Ω Γ R nL Q k n zLy ad σ pc lv (.ref (ad 41) :: st) := v_geti cx 29 zl_41 rfl rfl (by decide) inX11 fl_M_72 hd h
theorem lk_M_116 : Cond.methodLink "GentleRoadModel" 116 y_M_isOpen ∈ zT := ztc9 16 (by decide +kernel) rfl
theorem lk_M_120 : Cond.methodLink "GentleRoadModel" 120 y_M_isSteep ∈ zT := ztc9 24 (by decide +kernel) rfl
theorem lk_M_123 : Cond.methodLink "GentleRoadModel" 123 y_M_eighths ∈ zT := ztc9 75 (by decide +kernel) rfl
theorem lk_M_126 : Cond.methodLink "GentleRoadModel" 126 y_M_isFlat ∈ zT := ztc9 1 (by decide +kernel) rfl
theorem lk_M_129 : Cond.methodLink "GentleRoadModel" 129 y_M_many ∈ zT := ztc8 159 (by decide +kernel) rfl
theorem lk_M_132 : Cond.methodLink "GentleRoadModel" 132 y_M_hasStep ∈ zT := ztc9 90 (by decide +kernel) rfl
theorem lk_M_136 : Cond.methodLink "GentleRoadModel" 136 y_M_climb ∈ zT := ztc9 82 (by decide +kernel) rfl
theorem lk_M_139 : Cond.methodLink "GentleRoadModel" 139 y_M_stepOf ∈ zT := ztc9 78 (by decide +kernel) rfl
theorem lk_M_143 : Cond.methodLink "GentleRoadModel" 143 y_M_isUsed ∈ zT := ztc9 86 (by decide +kernel) rfl
theorem gf_M_81 (cx : zC Ω Γ cc nL "GentleRoadModel") (hd : decode cc pc = .ok (.getfield 81, 3)) (h : zV Ω Γ R nL Q k n zLy ad σ (pc + 3) lv (.ref (ad 62) :: st)) : zV Ω Γ R nL Q k n zLy ad σ pc lv (.ref (ad 41) :: st) := v_getr cx 32 zl_41 rfl rfl (by decide) inX11 fl_M_81 hd h
theorem lk_M_146 : Cond.methodLink "GentleRoadModel" 146 y_M_bendCost ∈ zT := ztc9 98 (by decide +kernel) rfl
theorem gf_M_41 (cx : zC Ω Γ cc nL "GentleRoadModel") (hd : decode cc pc = .ok (.getfield 41, 3)) (h : zV Ω Γ R nL Q k n zLy ad σ (pc + 3) lv (.ref (ad 51) :: st)) : zV Ω Γ R nL Q k n zLy ad σ pc lv (.ref (ad 41) :: st) := v_getr cx 16 zl_41 rfl rfl (by decide) inX11 fl_M_41 hd h
theorem gf_M_44 (cx : zC Ω Γ cc nL "GentleRoadModel") (hd : decode cc pc = .ok (.getfield 44, 3)) (h : zV Ω Γ R nL Q k n zLy ad σ (pc + 3) lv (.ref (ad 52) :: st)) : zV Ω Γ R nL Q k n zLy ad σ pc lv (.ref (ad 41) :: st) := v_getr cx 17 zl_41 rfl rfl (by decide) inX11 fl_M_44 hd h
theorem lk_M_149 : Cond.methodLink "GentleRoadModel" 149 y_M_canStep ∈ zT := ztc9 12 (by decide +kernel) rfl
theorem lk_M_152 : Cond.methodLink "GentleRoadModel" 152 y_M_canBend ∈ zT := ztc9 71 (by decide +kernel) rfl
theorem ct_M_155 : Cond.constant "GentleRoadModel" 155 (zI (1000000000)) ∈ zT := ztc8 147 (by decide +kernel) rfl
theorem lk_M_156 : Cond.methodLink "GentleRoadModel" 156 y_M_bendOf ∈ zT := ztc9 94 (by decide +kernel) rfl
theorem lk_M_159 : Cond.methodLink "GentleRoadModel" 159 y_M_isLess ∈ zT := ztc9 102 (by decide +kernel) rfl
theorem lk_M_162 : Cond.methodLink "GentleRoadModel" 162 y_M_laysCatches ∈ zT := ztc8 135 (by decide +kernel) rfl
theorem lk_M_165 : Cond.methodLink "GentleRoadModel" 165 y_M_eases ∈ zT := ztc9 67 (by decide +kernel) rfl
theorem lk_M_168 : Cond.methodLink "GentleRoadModel" 168 y_M_goesTo ∈ zT := ztc9 63 (by decide +kernel) rfl
theorem fl_M_172 : Cond.fieldLink "GentleRoadModel" 172 (TX11 20).1 (TX11 20).2.1 (TX11 20).2.2.1 ∈ zT := ztc8 22 (by decide +kernel) rfl
theorem pf_M_172 (cx : zC Ω Γ cc nL "GentleRoadModel") (ha : zR a) (hd : decode cc pc = .ok (.putfield 172, 3)) (h : zV Ω Γ R nL Q k n zLy ad (zU σ 41 20 a) (pc + 3) lv st) : zV Ω Γ R nL Q k n zLy ad σ pc lv (.int (zI a) :: .ref (ad 41) :: st) := v_puti cx 20 tyX11 tyX11_ok nmX11 zl_41 rfl rfl (by decide) inX11 fl_M_172 rfl (tyX11_ok 20 (by decide)) rfl rfl ha hd h
theorem gf_M_50 (cx : zC Ω Γ cc nL "GentleRoadModel") (hd : decode cc pc = .ok (.getfield 50, 3)) (h : zV Ω Γ R nL Q k n zLy ad σ (pc + 3) lv (.ref (ad 54) :: st)) : zV Ω Γ R nL Q k n zLy ad σ pc lv (.ref (ad 41) :: st) := v_getr cx 19 zl_41 rfl rfl (by decide) inX11 fl_M_50 hd h
theorem gf_M_172 (cx : zC Ω Γ cc nL "GentleRoadModel") (hd : decode cc pc = .ok (.getfield 172, 3)) (h : zR (σ 41 20) → zV Ω Γ R nL Q k n zLy ad σ (pc + 3) lv (.int (zI (σ 41 20)) :: st)) : zV Ω Γ R nL Q k n zLy ad σ pc lv (.ref (ad 41) :: st) := v_geti cx 20 zl_41 rfl rfl (by decide) inX11 fl_M_172 hd h
theorem lk_M_175 : Cond.methodLink "GentleRoadModel" 175 y_M_headingOf ∈ zT := ztc9 114 (by decide +kernel) rfl
theorem lk_M_178 : Cond.methodLink "GentleRoadModel" 178 y_M_heading ∈ zT := ztc9 110 (by decide +kernel) rfl
theorem lk_M_181 : Cond.methodLink "GentleRoadModel" 181 y_M_isLesser ∈ zT := ztc9 179 (by decide +kernel) rfl
theorem lk_M_184 : Cond.methodLink "GentleRoadModel" 184 y_M_lesser ∈ zT := ztc9 152 (by decide +kernel) rfl
theorem lk_M_187 : Cond.methodLink "GentleRoadModel" 187 y_M_goesFrom ∈ zT := ztc9 175 (by decide +kernel) rfl
theorem lk_M_191 : Cond.methodLink "GentleRoadModel" 191 y_M_costAt ∈ zT := ztc9 183 (by decide +kernel) rfl
theorem lk_M_194 : Cond.methodLink "GentleRoadModel" 194 y_M_runOf ∈ zT := ztc8 127 (by decide +kernel) rfl
theorem gf_M_84 (cx : zC Ω Γ cc nL "GentleRoadModel") (hd : decode cc pc = .ok (.getfield 84, 3)) (h : zV Ω Γ R nL Q k n zLy ad σ (pc + 3) lv (.ref (ad 63) :: st)) : zV Ω Γ R nL Q k n zLy ad σ pc lv (.ref (ad 41) :: st) := v_getr cx 33 zl_41 rfl rfl (by decide) inX11 fl_M_84 hd h
theorem lk_M_197 : Cond.methodLink "GentleRoadModel" 197 y_M_isEdge ∈ zT := ztc8 143 (by decide +kernel) rfl
theorem lk_M_200 : Cond.methodLink "GentleRoadModel" 200 y_M_sinks ∈ zT := ztc8 148 (by decide +kernel) rfl
theorem lk_M_203 : Cond.methodLink "GentleRoadModel" 203 y_M_isPlace ∈ zT := ztc8 116 (by decide +kernel) rfl
theorem pf_M_87 (cx : zC Ω Γ cc nL "GentleRoadModel") (ha : zR a) (hd : decode cc pc = .ok (.putfield 87, 3)) (h : zV Ω Γ R nL Q k n zLy ad (zU σ 41 0 a) (pc + 3) lv st) : zV Ω Γ R nL Q k n zLy ad σ pc lv (.int (zI a) :: .ref (ad 41) :: st) := v_puti cx 0 tyX11 tyX11_ok nmX11 zl_41 rfl rfl (by decide) inX11 fl_M_87 rfl (tyX11_ok 0 (by decide)) rfl rfl ha hd h
theorem lk_M_206 : Cond.methodLink "GentleRoadModel" 206 y_M_spillOf ∈ zT := ztc8 139 (by decide +kernel) rfl
theorem lk_M_209 : Cond.methodLink "GentleRoadModel" 209 y_M_isRoad ∈ zT := ztc8 156 (by decide +kernel) rfl
theorem lk_M_212 : Cond.methodLink "GentleRoadModel" 212 y_M_placeAt ∈ zT := ztc8 163 (by decide +kernel) rfl
theorem fl_M_215 : Cond.fieldLink "GentleRoadModel" 215 (TX11 11).1 (TX11 11).2.1 (TX11 11).2.2.1 ∈ zT := ztc8 13 (by decide +kernel) rfl
theorem gf_M_215 (cx : zC Ω Γ cc nL "GentleRoadModel") (hd : decode cc pc = .ok (.getfield 215, 3)) (h : zR (σ 41 11) → zV Ω Γ R nL Q k n zLy ad σ (pc + 3) lv (.int (zI (σ 41 11)) :: st)) : zV Ω Γ R nL Q k n zLy ad σ pc lv (.ref (ad 41) :: st) := v_geti cx 11 zl_41 rfl rfl (by decide) inX11 fl_M_215 hd h
theorem gf_M_31 (cx : zC Ω Γ cc nL "GentleRoadModel") (hd : decode cc pc = .ok (.getfield 31, 3)) (h : zV Ω Γ R nL Q k n zLy ad σ (pc + 3) lv (.ref (ad 49) :: st)) : zV Ω Γ R nL Q k n zLy ad σ pc lv (.ref (ad 41) :: st) := v_getr cx 10 zl_41 rfl rfl (by decide) inX11 fl_M_31 hd h
theorem pf_M_215 (cx : zC Ω Γ cc nL "GentleRoadModel") (ha : zR a) (hd : decode cc pc = .ok (.putfield 215, 3)) (h : zV Ω Γ R nL Q k n zLy ad (zU σ 41 11 a) (pc + 3) lv st) : zV Ω Γ R nL Q k n zLy ad σ pc lv (.int (zI a) :: .ref (ad 41) :: st) := v_puti cx 11 tyX11 tyX11_ok nmX11 zl_41 rfl rfl (by decide) inX11 fl_M_215 rfl (tyX11_ok 11 (by decide)) rfl rfl ha hd h
theorem fl_M_218 : Cond.fieldLink "GentleRoadModel" 218 (TX11 13).1 (TX11 13).2.1 (TX11 13).2.2.1 ∈ zT := ztc8 15 (by decide +kernel) rfl
theorem gf_M_218 (cx : zC Ω Γ cc nL "GentleRoadModel") (hd : decode cc pc = .ok (.getfield 218, 3)) (h : zR (σ 41 13) → zV Ω Γ R nL Q k n zLy ad σ (pc + 3) lv (.int (zI (σ 41 13)) :: st)) : zV Ω Γ R nL Q k n zLy ad σ pc lv (.ref (ad 41) :: st) := v_geti cx 13 zl_41 rfl rfl (by decide) inX11 fl_M_218 hd h
theorem fl_M_221 : Cond.fieldLink "GentleRoadModel" 221 (TX11 12).1 (TX11 12).2.1 (TX11 12).2.2.1 ∈ zT := ztc8 14 (by decide +kernel) rfl
theorem gf_M_221 (cx : zC Ω Γ cc nL "GentleRoadModel") (hd : decode cc pc = .ok (.getfield 221, 3)) (h : zR (σ 41 12) → zV Ω Γ R nL Q k n zLy ad σ (pc + 3) lv (.int (zI (σ 41 12)) :: st)) : zV Ω Γ R nL Q k n zLy ad σ pc lv (.ref (ad 41) :: st) := v_geti cx 12 zl_41 rfl rfl (by decide) inX11 fl_M_221 hd h
theorem pf_M_218 (cx : zC Ω Γ cc nL "GentleRoadModel") (ha : zR a) (hd : decode cc pc = .ok (.putfield 218, 3)) (h : zV Ω Γ R nL Q k n zLy ad (zU σ 41 13 a) (pc + 3) lv st) : zV Ω Γ R nL Q k n zLy ad σ pc lv (.int (zI a) :: .ref (ad 41) :: st) := v_puti cx 13 tyX11 tyX11_ok nmX11 zl_41 rfl rfl (by decide) inX11 fl_M_218 rfl (tyX11_ok 13 (by decide)) rfl rfl ha hd h
theorem gf_M_34 (cx : zC Ω Γ cc nL "GentleRoadModel") (hd : decode cc pc = .ok (.getfield 34, 3)) (h : zR (σ 41 14) → zV Ω Γ R nL Q k n zLy ad σ (pc + 3) lv (.int (zI (σ 41 14)) :: st)) : zV Ω Γ R nL Q k n zLy ad σ pc lv (.ref (ad 41) :: st) := v_geti cx 14 zl_41 rfl rfl (by decide) inX11 fl_M_34 hd h
theorem lk_M_224 : Cond.methodLink "GentleRoadModel" 224 y_M_here ∈ zT := ztc8 188 (by decide +kernel) rfl
theorem lk_M_236 : Cond.methodLink "GentleRoadModel" 236 y_M_has ∈ zT := ztc8 184 (by decide +kernel) rfl
theorem lk_M_240 : Cond.methodLink "GentleRoadModel" 240 y_M_wrong ∈ zT := ztc8 194 (by decide +kernel) rfl
theorem gf_M_38 (cx : zC Ω Γ cc nL "GentleRoadModel") (hd : decode cc pc = .ok (.getfield 38, 3)) (h : zV Ω Γ R nL Q k n zLy ad σ (pc + 3) lv (.ref (ad 50) :: st)) : zV Ω Γ R nL Q k n zLy ad σ pc lv (.ref (ad 41) :: st) := v_getr cx 15 zl_41 rfl rfl (by decide) inX11 fl_M_38 hd h
theorem lk_M_243 : Cond.methodLink "GentleRoadModel" 243 y_M_mustSign ∈ zT := ztc8 206 (by decide +kernel) rfl
theorem lk_M_248 : Cond.methodLink "GentleRoadModel" 248 y_M_expects ∈ zT := ztc8 180 (by decide +kernel) rfl
theorem lk_M_252 : Cond.methodLink "GentleRoadModel" 252 y_M_number ∈ zT := ztc8 198 (by decide +kernel) rfl
theorem lk_M_279 : Cond.methodLink "GentleRoadModel" 279 y_M_termHere ∈ zT := ztc8 216 (by decide +kernel) rfl
theorem fl_M_282 : Cond.fieldLink "GentleRoadModel" 282 (TX11 34).1 (TX11 34).2.1 (TX11 34).2.2.1 ∈ zT := ztc8 36 (by decide +kernel) rfl
theorem gf_M_282 (cx : zC Ω Γ cc nL "GentleRoadModel") (hd : decode cc pc = .ok (.getfield 282, 3)) (h : zR (σ 41 34) → zV Ω Γ R nL Q k n zLy ad σ (pc + 3) lv (.int (zI (σ 41 34)) :: st)) : zV Ω Γ R nL Q k n zLy ad σ pc lv (.ref (ad 41) :: st) := v_geti cx 34 zl_41 rfl rfl (by decide) inX11 fl_M_282 hd h
theorem pf_M_282 (cx : zC Ω Γ cc nL "GentleRoadModel") (ha : zR a) (hd : decode cc pc = .ok (.putfield 282, 3)) (h : zV Ω Γ R nL Q k n zLy ad (zU σ 41 34 a) (pc + 3) lv st) : zV Ω Γ R nL Q k n zLy ad σ pc lv (.int (zI a) :: .ref (ad 41) :: st) := v_puti cx 34 tyX11 tyX11_ok nmX11 zl_41 rfl rfl (by decide) inX11 fl_M_282 rfl (tyX11_ok 34 (by decide)) rfl rfl ha hd h
theorem gf_M_22 (cx : zC Ω Γ cc nL "GentleRoadModel") (hd : decode cc pc = .ok (.getfield 22, 3)) (h : zV Ω Γ R nL Q k n zLy ad σ (pc + 3) lv (.ref (ad 46) :: st)) : zV Ω Γ R nL Q k n zLy ad σ pc lv (.ref (ad 41) :: st) := v_getr cx 7 zl_41 rfl rfl (by decide) inX11 fl_M_22 hd h
theorem pf_M_221 (cx : zC Ω Γ cc nL "GentleRoadModel") (ha : zR a) (hd : decode cc pc = .ok (.putfield 221, 3)) (h : zV Ω Γ R nL Q k n zLy ad (zU σ 41 12 a) (pc + 3) lv st) : zV Ω Γ R nL Q k n zLy ad σ pc lv (.int (zI a) :: .ref (ad 41) :: st) := v_puti cx 12 tyX11 tyX11_ok nmX11 zl_41 rfl rfl (by decide) inX11 fl_M_221 rfl (tyX11_ok 12 (by decide)) rfl rfl ha hd h
theorem lk_M_287 : Cond.methodLink "GentleRoadModel" 287 y_M_heights ∈ zT := ztc8 202 (by decide +kernel) rfl
theorem lk_M_290 : Cond.methodLink "GentleRoadModel" 290 y_M_moreLine ∈ zT := ztc8 211 (by decide +kernel) rfl
theorem fl_M_293 : Cond.fieldLink "GentleRoadModel" 293 (TX11 3).1 (TX11 3).2.1 (TX11 3).2.2.1 ∈ zT := ztc8 5 (by decide +kernel) rfl
theorem pf_M_293 (cx : zC Ω Γ cc nL "GentleRoadModel") (ha : zR a) (hd : decode cc pc = .ok (.putfield 293, 3)) (h : zV Ω Γ R nL Q k n zLy ad (zU σ 41 3 a) (pc + 3) lv st) : zV Ω Γ R nL Q k n zLy ad σ pc lv (.int (zI a) :: .ref (ad 41) :: st) := v_puti cx 3 tyX11 tyX11_ok nmX11 zl_41 rfl rfl (by decide) inX11 fl_M_293 rfl (tyX11_ok 3 (by decide)) rfl rfl ha hd h
theorem gf_M_293 (cx : zC Ω Γ cc nL "GentleRoadModel") (hd : decode cc pc = .ok (.getfield 293, 3)) (h : zR (σ 41 3) → zV Ω Γ R nL Q k n zLy ad σ (pc + 3) lv (.int (zI (σ 41 3)) :: st)) : zV Ω Γ R nL Q k n zLy ad σ pc lv (.ref (ad 41) :: st) := v_geti cx 3 zl_41 rfl rfl (by decide) inX11 fl_M_293 hd h
theorem gf_M_13 (cx : zC Ω Γ cc nL "GentleRoadModel") (hd : decode cc pc = .ok (.getfield 13, 3)) (h : zV Ω Γ R nL Q k n zLy ad σ (pc + 3) lv (.ref (ad 43) :: st)) : zV Ω Γ R nL Q k n zLy ad σ pc lv (.ref (ad 41) :: st) := v_getr cx 2 zl_41 rfl rfl (by decide) inX11 fl_M_13 hd h
theorem lk_M_296 : Cond.methodLink "GentleRoadModel" 296 y_M_remembers ∈ zT := ztc9 39 (by decide +kernel) rfl
theorem lk_M_299 : Cond.methodLink "GentleRoadModel" 299 y_M_two ∈ zT := ztc9 55 (by decide +kernel) rfl
theorem lk_M_302 : Cond.methodLink "GentleRoadModel" 302 y_M_isWay ∈ zT := ztc9 59 (by decide +kernel) rfl
theorem lk_M_305 : Cond.methodLink "GentleRoadModel" 305 y_M_measure ∈ zT := ztc9 106 (by decide +kernel) rfl
theorem lk_M_308 : Cond.methodLink "GentleRoadModel" 308 y_M_stepHeading ∈ zT := ztc9 141 (by decide +kernel) rfl
theorem lk_M_311 : Cond.methodLink "GentleRoadModel" 311 y_M_isRuled ∈ zT := ztc9 137 (by decide +kernel) rfl
theorem gf_M_54 (cx : zC Ω Γ cc nL "GentleRoadModel") (hd : decode cc pc = .ok (.getfield 54, 3)) (h : zV Ω Γ R nL Q k n zLy ad σ (pc + 3) lv (.ref (ad 55) :: st)) : zV Ω Γ R nL Q k n zLy ad σ pc lv (.ref (ad 41) :: st) := v_getr cx 21 zl_41 rfl rfl (by decide) inX11 fl_M_54 hd h
theorem lk_M_315 : Cond.methodLink "GentleRoadModel" 315 y_M_cell ∈ zT := ztc9 145 (by decide +kernel) rfl
theorem lk_M_318 : Cond.methodLink "GentleRoadModel" 318 y_M_earthOf ∈ zT := ztc9 148 (by decide +kernel) rfl
theorem lk_M_321 : Cond.methodLink "GentleRoadModel" 321 y_M_laysEarth ∈ zT := ztc9 133 (by decide +kernel) rfl
theorem gf_M_57 (cx : zC Ω Γ cc nL "GentleRoadModel") (hd : decode cc pc = .ok (.getfield 57, 3)) (h : zV Ω Γ R nL Q k n zLy ad σ (pc + 3) lv (.ref (ad 56) :: st)) : zV Ω Γ R nL Q k n zLy ad σ pc lv (.ref (ad 41) :: st) := v_getr cx 22 zl_41 rfl rfl (by decide) inX11 fl_M_57 hd h
theorem lk_M_324 : Cond.methodLink "GentleRoadModel" 324 y_M_grading ∈ zT := ztc9 129 (by decide +kernel) rfl
theorem lk_M_327 : Cond.methodLink "GentleRoadModel" 327 y_M_chooses ∈ zT := ztc9 155 (by decide +kernel) rfl
theorem lk_M_331 : Cond.methodLink "GentleRoadModel" 331 y_M_isThere ∈ zT := ztc9 191 (by decide +kernel) rfl
theorem gf_M_47 (cx : zC Ω Γ cc nL "GentleRoadModel") (hd : decode cc pc = .ok (.getfield 47, 3)) (h : zV Ω Γ R nL Q k n zLy ad σ (pc + 3) lv (.ref (ad 53) :: st)) : zV Ω Γ R nL Q k n zLy ad σ pc lv (.ref (ad 41) :: st) := v_getr cx 18 zl_41 rfl rfl (by decide) inX11 fl_M_47 hd h
theorem lk_M_334 : Cond.methodLink "GentleRoadModel" 334 y_M_isBorne ∈ zT := ztc9 207 (by decide +kernel) rfl
theorem lk_M_337 : Cond.methodLink "GentleRoadModel" 337 y_M_bores ∈ zT := ztc9 203 (by decide +kernel) rfl
theorem gf_M_66 (cx : zC Ω Γ cc nL "GentleRoadModel") (hd : decode cc pc = .ok (.getfield 66, 3)) (h : zV Ω Γ R nL Q k n zLy ad σ (pc + 3) lv (.ref (ad 59) :: st)) : zV Ω Γ R nL Q k n zLy ad σ pc lv (.ref (ad 41) :: st) := v_getr cx 27 zl_41 rfl rfl (by decide) inX11 fl_M_66 hd h
theorem lk_M_340 : Cond.methodLink "GentleRoadModel" 340 y_M_addsFrom ∈ zT := ztc9 215 (by decide +kernel) rfl
theorem fl_M_343 : Cond.fieldLink "GentleRoadModel" 343 (TX11 24).1 (TX11 24).2.1 (TX11 24).2.2.1 ∈ zT := ztc8 26 (by decide +kernel) rfl
theorem gf_M_343 (cx : zC Ω Γ cc nL "GentleRoadModel") (hd : decode cc pc = .ok (.getfield 343, 3)) (h : zR (σ 41 24) → zV Ω Γ R nL Q k n zLy ad σ (pc + 3) lv (.int (zI (σ 41 24)) :: st)) : zV Ω Γ R nL Q k n zLy ad σ pc lv (.ref (ad 41) :: st) := v_geti cx 24 zl_41 rfl rfl (by decide) inX11 fl_M_343 hd h
theorem gf_M_63 (cx : zC Ω Γ cc nL "GentleRoadModel") (hd : decode cc pc = .ok (.getfield 63, 3)) (h : zV Ω Γ R nL Q k n zLy ad σ (pc + 3) lv (.ref (ad 58) :: st)) : zV Ω Γ R nL Q k n zLy ad σ pc lv (.ref (ad 41) :: st) := v_getr cx 25 zl_41 rfl rfl (by decide) inX11 fl_M_63 hd h
theorem fl_M_346 : Cond.fieldLink "GentleRoadModel" 346 (TX11 26).1 (TX11 26).2.1 (TX11 26).2.2.1 ∈ zT := ztc8 28 (by decide +kernel) rfl
theorem gf_M_346 (cx : zC Ω Γ cc nL "GentleRoadModel") (hd : decode cc pc = .ok (.getfield 346, 3)) (h : zR (σ 41 26) → zV Ω Γ R nL Q k n zLy ad σ (pc + 3) lv (.int (zI (σ 41 26)) :: st)) : zV Ω Γ R nL Q k n zLy ad σ pc lv (.ref (ad 41) :: st) := v_geti cx 26 zl_41 rfl rfl (by decide) inX11 fl_M_346 hd h
theorem pf_M_346 (cx : zC Ω Γ cc nL "GentleRoadModel") (ha : zR a) (hd : decode cc pc = .ok (.putfield 346, 3)) (h : zV Ω Γ R nL Q k n zLy ad (zU σ 41 26 a) (pc + 3) lv st) : zV Ω Γ R nL Q k n zLy ad σ pc lv (.int (zI a) :: .ref (ad 41) :: st) := v_puti cx 26 tyX11 tyX11_ok nmX11 zl_41 rfl rfl (by decide) inX11 fl_M_346 rfl (tyX11_ok 26 (by decide)) rfl rfl ha hd h
theorem lk_M_349 : Cond.methodLink "GentleRoadModel" 349 y_M_goesRound ∈ zT := ztc9 227 (by decide +kernel) rfl
theorem pf_M_343 (cx : zC Ω Γ cc nL "GentleRoadModel") (ha : zR a) (hd : decode cc pc = .ok (.putfield 343, 3)) (h : zV Ω Γ R nL Q k n zLy ad (zU σ 41 24 a) (pc + 3) lv st) : zV Ω Γ R nL Q k n zLy ad σ pc lv (.int (zI a) :: .ref (ad 41) :: st) := v_puti cx 24 tyX11 tyX11_ok nmX11 zl_41 rfl rfl (by decide) inX11 fl_M_343 rfl (tyX11_ok 24 (by decide)) rfl rfl ha hd h
theorem gf_M_60 (cx : zC Ω Γ cc nL "GentleRoadModel") (hd : decode cc pc = .ok (.getfield 60, 3)) (h : zV Ω Γ R nL Q k n zLy ad σ (pc + 3) lv (.ref (ad 57) :: st)) : zV Ω Γ R nL Q k n zLy ad σ pc lv (.ref (ad 41) :: st) := v_getr cx 23 zl_41 rfl rfl (by decide) inX11 fl_M_60 hd h
theorem lk_M_352 : Cond.methodLink "GentleRoadModel" 352 y_M_areStops ∈ zT := ztc9 223 (by decide +kernel) rfl
theorem lk_M_356 : Cond.methodLink "GentleRoadModel" 356 y_M_levelAt ∈ zT := ztc10 19 (by decide +kernel) rfl
theorem lk_M_359 : Cond.methodLink "GentleRoadModel" 359 y_M_levels ∈ zT := ztc10 15 (by decide +kernel) rfl
theorem lk_M_362 : Cond.methodLink "GentleRoadModel" 362 y_M_offsetAt ∈ zT := ztc10 23 (by decide +kernel) rfl
theorem lk_M_365 : Cond.methodLink "GentleRoadModel" 365 y_M_laysPath ∈ zT := ztc9 235 (by decide +kernel) rfl
theorem lk_M_368 : Cond.methodLink "GentleRoadModel" 368 y_M_hairpins ∈ zT := ztc9 239 (by decide +kernel) rfl
theorem lk_M_371 : Cond.methodLink "GentleRoadModel" 371 y_M_brokenStep ∈ zT := ztc10 3 (by decide +kernel) rfl
theorem lk_M_374 : Cond.methodLink "GentleRoadModel" 374 y_M_brokenBend ∈ zT := ztc10 7 (by decide +kernel) rfl
theorem lk_M_377 : Cond.methodLink "GentleRoadModel" 377 y_M_steepest ∈ zT := ztc10 11 (by decide +kernel) rfl
theorem lk_M_380 : Cond.methodLink "GentleRoadModel" 380 y_M_earthNow ∈ zT := ztc10 27 (by decide +kernel) rfl
theorem lk_M_383 : Cond.methodLink "GentleRoadModel" 383 y_M_offsets ∈ zT := ztc10 31 (by decide +kernel) rfl
theorem lk_M_386 : Cond.methodLink "GentleRoadModel" 386 y_M_ruling ∈ zT := ztc10 35 (by decide +kernel) rfl
theorem lk_M_389 : Cond.methodLink "GentleRoadModel" 389 y_M_highest ∈ zT := ztc10 39 (by decide +kernel) rfl
theorem lk_M_393 : Cond.methodLink "GentleRoadModel" 393 y_M_straight ∈ zT := ztc10 43 (by decide +kernel) rfl
theorem lk_M_396 : Cond.methodLink "GentleRoadModel" 396 y_M_descent ∈ zT := ztc10 47 (by decide +kernel) rfl
theorem gf_M_75 (cx : zC Ω Γ cc nL "GentleRoadModel") (hd : decode cc pc = .ok (.getfield 75, 3)) (h : zV Ω Γ R nL Q k n zLy ad σ (pc + 3) lv (.ref (ad 60) :: st)) : zV Ω Γ R nL Q k n zLy ad σ pc lv (.ref (ad 41) :: st) := v_getr cx 30 zl_41 rfl rfl (by decide) inX11 fl_M_75 hd h
theorem gf_M_78 (cx : zC Ω Γ cc nL "GentleRoadModel") (hd : decode cc pc = .ok (.getfield 78, 3)) (h : zV Ω Γ R nL Q k n zLy ad σ (pc + 3) lv (.ref (ad 61) :: st)) : zV Ω Γ R nL Q k n zLy ad σ pc lv (.ref (ad 41) :: st) := v_getr cx 31 zl_41 rfl rfl (by decide) inX11 fl_M_78 hd h
theorem lk_M_399 : Cond.methodLink "GentleRoadModel" 399 y_M_stagesFrom ∈ zT := ztc10 71 (by decide +kernel) rfl
theorem gf_M_16 (cx : zC Ω Γ cc nL "GentleRoadModel") (hd : decode cc pc = .ok (.getfield 16, 3)) (h : zV Ω Γ R nL Q k n zLy ad σ (pc + 3) lv (.ref (ad 44) :: st)) : zV Ω Γ R nL Q k n zLy ad σ pc lv (.ref (ad 41) :: st) := v_getr cx 4 zl_41 rfl rfl (by decide) inX11 fl_M_16 hd h
theorem fl_M_402 : Cond.fieldLink "GentleRoadModel" 402 (TX11 5).1 (TX11 5).2.1 (TX11 5).2.2.1 ∈ zT := ztc8 7 (by decide +kernel) rfl
theorem pf_M_402 (cx : zC Ω Γ cc nL "GentleRoadModel") (ha : a = 0 ∨ a = 1) (hd : decode cc pc = .ok (.putfield 402, 3)) (h : zV Ω Γ R nL Q k n zLy ad (zU σ 41 5 a) (pc + 3) lv st) : zV Ω Γ R nL Q k n zLy ad σ pc lv (.int (zI a) :: .ref (ad 41) :: st) := v_puti cx 5 tyX11 tyX11_ok nmX11 zl_41 rfl rfl (by decide) inX11 fl_M_402 rfl (tyX11_ok 5 (by decide)) (by rcases ha with rfl | rfl <;> rfl) (by rcases ha with rfl | rfl <;> rfl) (by rcases ha with rfl | rfl <;> exact ⟨by decide, by decide⟩) hd h
theorem gf_M_402 (cx : zC Ω Γ cc nL "GentleRoadModel") (hd : decode cc pc = .ok (.getfield 402, 3)) (h : zR (σ 41 5) → zV Ω Γ R nL Q k n zLy ad σ (pc + 3) lv (.int (zI (σ 41 5)) :: st)) : zV Ω Γ R nL Q k n zLy ad σ pc lv (.ref (ad 41) :: st) := v_geti cx 5 zl_41 rfl rfl (by decide) inX11 fl_M_402 hd h
end
