theorem zcl_A_13 : Cond.classLink "GentleRoadLaw" 13 "java/lang/IllegalArgumentException" ∈ zT := ztc2 207 (by decide +kernel) rfl
theorem zcl_A_19 : Cond.classLink "GentleRoadLaw" 19 "java/lang/IndexOutOfBoundsException" ∈ zT := ztc3 171 (by decide +kernel) rfl
theorem zcl_A_21 : Cond.classLink "GentleRoadLaw" 21 "java/util/NoSuchElementException" ∈ zT := ztc3 172 (by decide +kernel) rfl
theorem zcl_A_41 : Cond.classLink "GentleRoadLaw" 41 "java/lang/IllegalStateException" ∈ zT := ztc4 79 (by decide +kernel) rfl
theorem yk_A_land : zYw y_A_land c_A_land 3 (some .int) [(0, 8, 11, 13)] 2 := ⟨ztc2 206 rfl rfl, ztc2 205 (by decide +kernel) rfl, ztc1 0 (by decide +kernel) rfl, by decide +kernel⟩
theorem lk_A_7 : Cond.methodLink "GentleRoadLaw" 7 y_R_land ∈ zT := ztc2 208 (by decide +kernel) rfl
def q_A_land (K : Int → zS → Prop) (σ : zS) : Prop := q_R_land (fun r u => K 0 (zU u 64 0 r)) (fun E u => (E = "java/lang/IllegalArgumentException" ∧ K 1 u)) σ
abbrev rm_A_land : Room := { frames := 9, cells := 1, slots := 6, locals := 191 }
set_option maxRecDepth 20000 in
set_option maxHeartbeats 4000000 in
theorem s_A_land {Ω : zO} {ad : Nat → Nat} {K : Int → zS → Prop} {σ : zS}  (h : q_A_land K σ) : zXi Ω y_A_land (.codeWith y_A_land c_A_land 3 (some .int) [(0, 8, 11, 13)]) rm_A_land zLy ad [.ref (ad 0), .ref (ad 64)] σ K (fun _ _ => False) := by
  refine z_ofW (lv := [(0, .ref (ad 0)), (1, .ref (ad 64))]) (by decide) rfl (Nat.le_of_ble_eq_true rfl) ?_
  intro Γ Q cx rt htb
  refine v_aload_n cx 1 d_A_land_0 rfl rfl ?_
  refine v_iconst cx d_A_land_1 ?_
  refine v_aload_n cx 0 d_A_land_2 rfl rfl ?_
  refine v_xcalli (st := [.int (zI 0), .ref (ad 64)]) cx (s_R_land  h) yk_R_land lk_A_7 zl_0 rfl rfl rfl (Nat.le_of_ble_eq_true rfl) ⟨Nat.le_of_ble_eq_true rfl, Nat.le_of_ble_eq_true rfl⟩ ⟨Nat.le_of_ble_eq_true rfl, Nat.le_of_ble_eq_true rfl⟩ d_A_land_3 (fun r u hr h => ?_) (fun E u hX => ?_)
  · refine v_i2l cx hr d_A_land_6 ?_
    refine v_last cx zl_64 (by decide) (by decide) (by decide) hr d_A_land_7 ?_
    refine v_goto cx 14 d_A_land_8 (by decide) ?_
    refine v_iconst cx d_A_land_14 ?_
    exact rt _ _ _ _ _ _ (Nat.le_of_ble_eq_true rfl) (Nat.le_of_ble_eq_true rfl) d_A_land_15 zR_0 h
  · rcases hX with ⟨rfl, h⟩
    · refine v_catch cx (tableOf []) ⟨0, 8, 11, 13⟩ (tableOf []) (by rw [htb]; rfl) (fun z hz => by cases hz) (by decide) (by decide) zcl_A_13 (List.mem_of_getElem? (i := 6) rfl) (fun q => ?_)
      refine v_astore_n (lv' := [(0, .ref (ad 0)), (1, .ref (ad 64)), (2, .ref q)]) cx d_A_land_11 rfl (by decide) rfl rfl ?_
      refine v_iconst cx d_A_land_12 ?_
      exact rt _ _ _ _ _ _ (Nat.le_of_ble_eq_true rfl) (Nat.le_of_ble_eq_true rfl) d_A_land_13 ⟨by decide, by decide⟩ h
theorem yk_A_place : zYw y_A_place c_A_place 5 (some .int) [(0, 10, 13, 19), (0, 10, 17, 21)] 4 := ⟨ztc3 170 rfl rfl, ztc3 169 (by decide +kernel) rfl, ztc1 0 (by decide +kernel) rfl, by decide +kernel⟩
theorem lk_A_15 : Cond.methodLink "GentleRoadLaw" 15 y_R_place ∈ zT := ztc3 173 (by decide +kernel) rfl
def q_A_place (p1 : Int) (p2 : Int) (K : Int → zS → Prop) (σ : zS) : Prop := q_R_place p1 p2 (fun r u => K 0 (zU u 64 0 r)) (fun E u => (E = "java/lang/IndexOutOfBoundsException" ∧ K 1 u) ∨ (E = "java/util/NoSuchElementException" ∧ K 2 u)) σ
abbrev rm_A_place : Room := { frames := 8, cells := 2, slots := 12, locals := 144 }
set_option maxRecDepth 20000 in
set_option maxHeartbeats 4000000 in
theorem s_A_place {Ω : zO} {ad : Nat → Nat} {p1 : Int} {p2 : Int} {K : Int → zS → Prop} {σ : zS} (hp1 : zR p1) (hp2 : zR p2) (h : q_A_place p1 p2 K σ) : zXi Ω y_A_place (.codeWith y_A_place c_A_place 5 (some .int) [(0, 10, 13, 19), (0, 10, 17, 21)]) rm_A_place zLy ad [.ref (ad 0), .int (zI p1), .int (zI p2), .ref (ad 64)] σ K (fun _ _ => False) := by
  refine z_ofW (lv := [(0, .ref (ad 0)), (1, .int (zI p1)), (2, .int (zI p2)), (3, .ref (ad 64))]) (by decide) rfl (Nat.le_of_ble_eq_true rfl) ?_
  intro Γ Q cx rt htb
  refine v_aload_n cx 3 d_A_place_0 rfl rfl ?_
  refine v_iconst cx d_A_place_1 ?_
  refine v_aload_n cx 0 d_A_place_2 rfl rfl ?_
  refine v_iload_n cx 1 d_A_place_3 rfl rfl ?_
  refine v_iload_n cx 2 d_A_place_4 rfl rfl ?_
  refine v_xcalli (st := [.int (zI 0), .ref (ad 64)]) cx (s_R_place hp1 hp2 h) yk_R_place lk_A_15 zl_0 rfl rfl rfl (Nat.le_of_ble_eq_true rfl) ⟨Nat.le_of_ble_eq_true rfl, Nat.le_of_ble_eq_true rfl⟩ ⟨Nat.le_of_ble_eq_true rfl, Nat.le_of_ble_eq_true rfl⟩ d_A_place_5 (fun r u hr h => ?_) (fun E u hX => ?_)
  · refine v_i2l cx hr d_A_place_8 ?_
    refine v_last cx zl_64 (by decide) (by decide) (by decide) hr d_A_place_9 ?_
    refine v_goto cx 21 d_A_place_10 (by decide) ?_
    refine v_iconst cx d_A_place_21 ?_
    exact rt _ _ _ _ _ _ (Nat.le_of_ble_eq_true rfl) (Nat.le_of_ble_eq_true rfl) d_A_place_22 zR_0 h
  · rcases hX with ⟨rfl, h⟩ | ⟨rfl, h⟩
    · refine v_catch cx (tableOf []) ⟨0, 10, 13, 19⟩ (tableOf [(0, 10, 17, 21)]) (by rw [htb]; rfl) (fun z hz => by cases hz) (by decide) (by decide) zcl_A_19 (List.mem_of_getElem? (i := 13) rfl) (fun q => ?_)
      refine v_astore (lv' := [(0, .ref (ad 0)), (1, .int (zI p1)), (2, .int (zI p2)), (3, .ref (ad 64)), (4, .ref q)]) cx d_A_place_13 (by decide) rfl rfl ?_
      refine v_iconst cx d_A_place_15 ?_
      exact rt _ _ _ _ _ _ (Nat.le_of_ble_eq_true rfl) (Nat.le_of_ble_eq_true rfl) d_A_place_16 ⟨by decide, by decide⟩ h
    · refine v_catch cx (tableOf [(0, 10, 13, 19)]) ⟨0, 10, 17, 21⟩ (tableOf []) (by rw [htb]; rfl) (fun z hz => by
        simp only [tableOf, List.map_cons, List.map_nil, List.mem_cons, List.not_mem_nil, or_false] at hz
        rcases hz with rfl
        · exact ⟨by decide, "java/lang/IndexOutOfBoundsException", zcl_A_19, List.mem_of_getElem? (i := 11) rfl⟩) (by decide) (by decide) zcl_A_21 (List.mem_of_getElem? (i := 14) rfl) (fun q => ?_)
      refine v_astore (lv' := [(0, .ref (ad 0)), (1, .int (zI p1)), (2, .int (zI p2)), (3, .ref (ad 64)), (4, .ref q)]) cx d_A_place_17 (by decide) rfl rfl ?_
      refine v_iconst cx d_A_place_19 ?_
      exact rt _ _ _ _ _ _ (Nat.le_of_ble_eq_true rfl) (Nat.le_of_ble_eq_true rfl) d_A_place_20 ⟨by decide, by decide⟩ h
theorem yk_A_term : zYw y_A_term c_A_term 4 (some .int) [(0, 9, 12, 21)] 3 := ⟨ztc4 17 rfl rfl, ztc4 16 (by decide +kernel) rfl, ztc1 0 (by decide +kernel) rfl, by decide +kernel⟩
theorem lk_A_23 : Cond.methodLink "GentleRoadLaw" 23 y_R_term ∈ zT := ztc4 18 (by decide +kernel) rfl
def q_A_term (p1 : Int) (K : Int → zS → Prop) (σ : zS) : Prop := q_R_term p1 (fun r u => K 0 (zU u 64 0 r)) (fun E u => (E = "java/util/NoSuchElementException" ∧ K 1 u)) σ
abbrev rm_A_term : Room := { frames := 8, cells := 1, slots := 6, locals := 143 }
set_option maxRecDepth 20000 in
set_option maxHeartbeats 4000000 in
theorem s_A_term {Ω : zO} {ad : Nat → Nat} {p1 : Int} {K : Int → zS → Prop} {σ : zS} (hp1 : zR p1) (h : q_A_term p1 K σ) : zXi Ω y_A_term (.codeWith y_A_term c_A_term 4 (some .int) [(0, 9, 12, 21)]) rm_A_term zLy ad [.ref (ad 0), .int (zI p1), .ref (ad 64)] σ K (fun _ _ => False) := by
  refine z_ofW (lv := [(0, .ref (ad 0)), (1, .int (zI p1)), (2, .ref (ad 64))]) (by decide) rfl (Nat.le_of_ble_eq_true rfl) ?_
  intro Γ Q cx rt htb
  refine v_aload_n cx 2 d_A_term_0 rfl rfl ?_
  refine v_iconst cx d_A_term_1 ?_
  refine v_aload_n cx 0 d_A_term_2 rfl rfl ?_
  refine v_iload_n cx 1 d_A_term_3 rfl rfl ?_
  refine v_xcalli (st := [.int (zI 0), .ref (ad 64)]) cx (s_R_term hp1 h) yk_R_term lk_A_23 zl_0 rfl rfl rfl (Nat.le_of_ble_eq_true rfl) ⟨Nat.le_of_ble_eq_true rfl, Nat.le_of_ble_eq_true rfl⟩ ⟨Nat.le_of_ble_eq_true rfl, Nat.le_of_ble_eq_true rfl⟩ d_A_term_4 (fun r u hr h => ?_) (fun E u hX => ?_)
  · refine v_i2l cx hr d_A_term_7 ?_
    refine v_last cx zl_64 (by decide) (by decide) (by decide) hr d_A_term_8 ?_
    refine v_goto cx 15 d_A_term_9 (by decide) ?_
    refine v_iconst cx d_A_term_15 ?_
    exact rt _ _ _ _ _ _ (Nat.le_of_ble_eq_true rfl) (Nat.le_of_ble_eq_true rfl) d_A_term_16 zR_0 h
  · rcases hX with ⟨rfl, h⟩
    · refine v_catch cx (tableOf []) ⟨0, 9, 12, 21⟩ (tableOf []) (by rw [htb]; rfl) (fun z hz => by cases hz) (by decide) (by decide) zcl_A_21 (List.mem_of_getElem? (i := 14) rfl) (fun q => ?_)
      refine v_astore_n (lv' := [(0, .ref (ad 0)), (1, .int (zI p1)), (2, .ref (ad 64)), (3, .ref q)]) cx d_A_term_12 rfl (by decide) rfl rfl ?_
      refine v_iconst cx d_A_term_13 ?_
      exact rt _ _ _ _ _ _ (Nat.le_of_ble_eq_true rfl) (Nat.le_of_ble_eq_true rfl) d_A_term_14 ⟨by decide, by decide⟩ h
theorem yk_A_tune : zYw y_A_tune c_A_tune 5 (some .int) [(0, 10, 13, 21), (0, 10, 17, 13)] 4 := ⟨ztc4 25 rfl rfl, ztc4 24 (by decide +kernel) rfl, ztc1 0 (by decide +kernel) rfl, by decide +kernel⟩
theorem lk_A_27 : Cond.methodLink "GentleRoadLaw" 27 y_R_tune ∈ zT := ztc4 26 (by decide +kernel) rfl
def q_A_tune (p1 : Int) (p2 : Int) (K : Int → zS → Prop) (σ : zS) : Prop := q_R_tune p1 p2 (fun r u => K 0 (zU u 64 0 r)) (fun E u => (E = "java/util/NoSuchElementException" ∧ K 1 u) ∨ (E = "java/lang/IllegalArgumentException" ∧ K 2 u)) σ
abbrev rm_A_tune : Room := { frames := 8, cells := 2, slots := 12, locals := 146 }
set_option maxRecDepth 20000 in
set_option maxHeartbeats 4000000 in
theorem s_A_tune {Ω : zO} {ad : Nat → Nat} {p1 : Int} {p2 : Int} {K : Int → zS → Prop} {σ : zS} (hp1 : zR p1) (hp2 : zR p2) (h : q_A_tune p1 p2 K σ) : zXi Ω y_A_tune (.codeWith y_A_tune c_A_tune 5 (some .int) [(0, 10, 13, 21), (0, 10, 17, 13)]) rm_A_tune zLy ad [.ref (ad 0), .int (zI p1), .int (zI p2), .ref (ad 64)] σ K (fun _ _ => False) := by
  refine z_ofW (lv := [(0, .ref (ad 0)), (1, .int (zI p1)), (2, .int (zI p2)), (3, .ref (ad 64))]) (by decide) rfl (Nat.le_of_ble_eq_true rfl) ?_
  intro Γ Q cx rt htb
  refine v_aload_n cx 3 d_A_tune_0 rfl rfl ?_
  refine v_iconst cx d_A_tune_1 ?_
  refine v_aload_n cx 0 d_A_tune_2 rfl rfl ?_
  refine v_iload_n cx 1 d_A_tune_3 rfl rfl ?_
  refine v_iload_n cx 2 d_A_tune_4 rfl rfl ?_
  refine v_xcalli (st := [.int (zI 0), .ref (ad 64)]) cx (s_R_tune hp1 hp2 h) yk_R_tune lk_A_27 zl_0 rfl rfl rfl (Nat.le_of_ble_eq_true rfl) ⟨Nat.le_of_ble_eq_true rfl, Nat.le_of_ble_eq_true rfl⟩ ⟨Nat.le_of_ble_eq_true rfl, Nat.le_of_ble_eq_true rfl⟩ d_A_tune_5 (fun r u hr h => ?_) (fun E u hX => ?_)
  · refine v_i2l cx hr d_A_tune_8 ?_
    refine v_last cx zl_64 (by decide) (by decide) (by decide) hr d_A_tune_9 ?_
    refine v_goto cx 21 d_A_tune_10 (by decide) ?_
    refine v_iconst cx d_A_tune_21 ?_
    exact rt _ _ _ _ _ _ (Nat.le_of_ble_eq_true rfl) (Nat.le_of_ble_eq_true rfl) d_A_tune_22 zR_0 h
  · rcases hX with ⟨rfl, h⟩ | ⟨rfl, h⟩
    · refine v_catch cx (tableOf []) ⟨0, 10, 13, 21⟩ (tableOf [(0, 10, 17, 13)]) (by rw [htb]; rfl) (fun z hz => by cases hz) (by decide) (by decide) zcl_A_21 (List.mem_of_getElem? (i := 14) rfl) (fun q => ?_)
      refine v_astore (lv' := [(0, .ref (ad 0)), (1, .int (zI p1)), (2, .int (zI p2)), (3, .ref (ad 64)), (4, .ref q)]) cx d_A_tune_13 (by decide) rfl rfl ?_
      refine v_iconst cx d_A_tune_15 ?_
      exact rt _ _ _ _ _ _ (Nat.le_of_ble_eq_true rfl) (Nat.le_of_ble_eq_true rfl) d_A_tune_16 ⟨by decide, by decide⟩ h
    · refine v_catch cx (tableOf [(0, 10, 13, 21)]) ⟨0, 10, 17, 13⟩ (tableOf []) (by rw [htb]; rfl) (fun z hz => by
        simp only [tableOf, List.map_cons, List.map_nil, List.mem_cons, List.not_mem_nil, or_false] at hz
        rcases hz with rfl
        · exact ⟨by decide, "java/util/NoSuchElementException", zcl_A_21, List.mem_of_getElem? (i := 2) rfl⟩) (by decide) (by decide) zcl_A_13 (List.mem_of_getElem? (i := 6) rfl) (fun q => ?_)
      refine v_astore (lv' := [(0, .ref (ad 0)), (1, .int (zI p1)), (2, .int (zI p2)), (3, .ref (ad 64)), (4, .ref q)]) cx d_A_tune_17 (by decide) rfl rfl ?_
      refine v_iconst cx d_A_tune_19 ?_
      exact rt _ _ _ _ _ _ (Nat.le_of_ble_eq_true rfl) (Nat.le_of_ble_eq_true rfl) d_A_tune_20 ⟨by decide, by decide⟩ h
theorem yk_A_raise : zYw y_A_raise c_A_raise 5 (some .int) [(0, 10, 13, 19), (0, 10, 17, 13)] 4 := ⟨ztc4 56 rfl rfl, ztc4 55 (by decide +kernel) rfl, ztc1 0 (by decide +kernel) rfl, by decide +kernel⟩
theorem lk_A_30 : Cond.methodLink "GentleRoadLaw" 30 y_R_raise ∈ zT := ztc4 57 (by decide +kernel) rfl
def q_A_raise (p1 : Int) (p2 : Int) (K : Int → zS → Prop) (σ : zS) : Prop := q_R_raise p1 p2 (fun r u => K 0 (zU u 64 0 r)) (fun E u => (E = "java/lang/IndexOutOfBoundsException" ∧ K 1 u) ∨ (E = "java/lang/IllegalArgumentException" ∧ K 2 u)) σ
abbrev rm_A_raise : Room := { frames := 8, cells := 3, slots := 18, locals := 146 }
set_option maxRecDepth 20000 in
set_option maxHeartbeats 4000000 in
theorem s_A_raise {Ω : zO} {ad : Nat → Nat} {p1 : Int} {p2 : Int} {K : Int → zS → Prop} {σ : zS} (hp1 : zR p1) (hp2 : zR p2) (h : q_A_raise p1 p2 K σ) : zXi Ω y_A_raise (.codeWith y_A_raise c_A_raise 5 (some .int) [(0, 10, 13, 19), (0, 10, 17, 13)]) rm_A_raise zLy ad [.ref (ad 0), .int (zI p1), .int (zI p2), .ref (ad 64)] σ K (fun _ _ => False) := by
  refine z_ofW (lv := [(0, .ref (ad 0)), (1, .int (zI p1)), (2, .int (zI p2)), (3, .ref (ad 64))]) (by decide) rfl (Nat.le_of_ble_eq_true rfl) ?_
  intro Γ Q cx rt htb
  refine v_aload_n cx 3 d_A_raise_0 rfl rfl ?_
  refine v_iconst cx d_A_raise_1 ?_
  refine v_aload_n cx 0 d_A_raise_2 rfl rfl ?_
  refine v_iload_n cx 1 d_A_raise_3 rfl rfl ?_
  refine v_iload_n cx 2 d_A_raise_4 rfl rfl ?_
  refine v_xcalli (st := [.int (zI 0), .ref (ad 64)]) cx (s_R_raise hp1 hp2 h) yk_R_raise lk_A_30 zl_0 rfl rfl rfl (Nat.le_of_ble_eq_true rfl) ⟨Nat.le_of_ble_eq_true rfl, Nat.le_of_ble_eq_true rfl⟩ ⟨Nat.le_of_ble_eq_true rfl, Nat.le_of_ble_eq_true rfl⟩ d_A_raise_5 (fun r u hr h => ?_) (fun E u hX => ?_)
  · refine v_i2l cx hr d_A_raise_8 ?_
    refine v_last cx zl_64 (by decide) (by decide) (by decide) hr d_A_raise_9 ?_
    refine v_goto cx 21 d_A_raise_10 (by decide) ?_
    refine v_iconst cx d_A_raise_21 ?_
    exact rt _ _ _ _ _ _ (Nat.le_of_ble_eq_true rfl) (Nat.le_of_ble_eq_true rfl) d_A_raise_22 zR_0 h
  · rcases hX with ⟨rfl, h⟩ | ⟨rfl, h⟩
    · refine v_catch cx (tableOf []) ⟨0, 10, 13, 19⟩ (tableOf [(0, 10, 17, 13)]) (by rw [htb]; rfl) (fun z hz => by cases hz) (by decide) (by decide) zcl_A_19 (List.mem_of_getElem? (i := 13) rfl) (fun q => ?_)
      refine v_astore (lv' := [(0, .ref (ad 0)), (1, .int (zI p1)), (2, .int (zI p2)), (3, .ref (ad 64)), (4, .ref q)]) cx d_A_raise_13 (by decide) rfl rfl ?_
      refine v_iconst cx d_A_raise_15 ?_
      exact rt _ _ _ _ _ _ (Nat.le_of_ble_eq_true rfl) (Nat.le_of_ble_eq_true rfl) d_A_raise_16 ⟨by decide, by decide⟩ h
    · refine v_catch cx (tableOf [(0, 10, 13, 19)]) ⟨0, 10, 17, 13⟩ (tableOf []) (by rw [htb]; rfl) (fun z hz => by
        simp only [tableOf, List.map_cons, List.map_nil, List.mem_cons, List.not_mem_nil, or_false] at hz
        rcases hz with rfl
        · exact ⟨by decide, "java/lang/IndexOutOfBoundsException", zcl_A_19, List.mem_of_getElem? (i := 1) rfl⟩) (by decide) (by decide) zcl_A_13 (List.mem_of_getElem? (i := 6) rfl) (fun q => ?_)
      refine v_astore (lv' := [(0, .ref (ad 0)), (1, .int (zI p1)), (2, .int (zI p2)), (3, .ref (ad 64)), (4, .ref q)]) cx d_A_raise_17 (by decide) rfl rfl ?_
      refine v_iconst cx d_A_raise_19 ?_
      exact rt _ _ _ _ _ _ (Nat.le_of_ble_eq_true rfl) (Nat.le_of_ble_eq_true rfl) d_A_raise_20 ⟨by decide, by decide⟩ h
theorem yk_A_flood : zYw y_A_flood c_A_flood 5 (some .int) [(0, 17, 20, 19)] 4 := ⟨ztc4 67 rfl rfl, ztc4 66 (by decide +kernel) rfl, ztc1 0 (by decide +kernel) rfl, by decide +kernel⟩
theorem lk_A_33 : Cond.methodLink "GentleRoadLaw" 33 y_R_flood ∈ zT := ztc4 68 (by decide +kernel) rfl
def q_A_flood (p1 : Int) (p2 : Int) (K : Int → zS → Prop) (σ : zS) : Prop := q_R_flood p1 p2 (fun r u => K 0 (zU u 64 0 r)) (fun E u => (E = "java/lang/IndexOutOfBoundsException" ∧ K 1 u)) σ
abbrev rm_A_flood : Room := { frames := 8, cells := 1, slots := 6, locals := 146 }
set_option maxRecDepth 20000 in
set_option maxHeartbeats 4000000 in
theorem s_A_flood {Ω : zO} {ad : Nat → Nat} {p1 : Int} {p2 : Int} {K : Int → zS → Prop} {σ : zS} (hp1 : zR p1) (hp2 : p2 = 0 ∨ p2 = 1) (h : q_A_flood p1 p2 K σ) : zXi Ω y_A_flood (.codeWith y_A_flood c_A_flood 5 (some .int) [(0, 17, 20, 19)]) rm_A_flood zLy ad [.ref (ad 0), .int (zI p1), .int (zI p2), .ref (ad 64)] σ K (fun _ _ => False) := by
  refine z_ofW (lv := [(0, .ref (ad 0)), (1, .int (zI p1)), (2, .int (zI p2)), (3, .ref (ad 64))]) (by decide) rfl (Nat.le_of_ble_eq_true rfl) ?_
  intro Γ Q cx rt htb
  refine v_aload_n cx 3 d_A_flood_0 rfl rfl ?_
  refine v_iconst cx d_A_flood_1 ?_
  refine v_aload_n cx 0 d_A_flood_2 rfl rfl ?_
  refine v_iload_n cx 1 d_A_flood_3 rfl rfl ?_
  refine v_iload_n cx 2 d_A_flood_4 rfl rfl ?_
  refine v_xcallz (st := [.int (zI 0), .ref (ad 64)]) cx (s_R_flood hp1 hp2 h) yk_R_flood lk_A_33 zl_0 rfl rfl rfl (Nat.le_of_ble_eq_true rfl) ⟨Nat.le_of_ble_eq_true rfl, Nat.le_of_ble_eq_true rfl⟩ ⟨Nat.le_of_ble_eq_true rfl, Nat.le_of_ble_eq_true rfl⟩ d_A_flood_5 (fun r u hr h => ?_) (fun E u hX => ?_)
  · refine v_if_eq cx 15 d_A_flood_8 (by decide) (zR_b hr) (fun c => ?_) (fun c => ?_)
    · subst c
      refine v_lconst cx 0 rfl d_A_flood_15 ?_
      refine v_last cx zl_64 (by decide) (by decide) (by decide) zR_0 d_A_flood_16 ?_
      refine v_goto cx 24 d_A_flood_17 (by decide) ?_
      refine v_iconst cx d_A_flood_24 ?_
      exact rt _ _ _ _ _ _ (Nat.le_of_ble_eq_true rfl) (Nat.le_of_ble_eq_true rfl) d_A_flood_25 zR_0 h
    · have c1 : r = 1 := hr.resolve_left c
      subst c1
      refine v_lconst cx 1 rfl d_A_flood_11 ?_
      refine v_goto cx 16 d_A_flood_12 (by decide) ?_
      refine v_last cx zl_64 (by decide) (by decide) (by decide) ⟨by decide, by decide⟩ d_A_flood_16 ?_
      refine v_goto cx 24 d_A_flood_17 (by decide) ?_
      refine v_iconst cx d_A_flood_24 ?_
      exact rt _ _ _ _ _ _ (Nat.le_of_ble_eq_true rfl) (Nat.le_of_ble_eq_true rfl) d_A_flood_25 zR_0 h
  · rcases hX with ⟨rfl, h⟩
    · refine v_catch cx (tableOf []) ⟨0, 17, 20, 19⟩ (tableOf []) (by rw [htb]; rfl) (fun z hz => by cases hz) (by decide) (by decide) zcl_A_19 (List.mem_of_getElem? (i := 13) rfl) (fun q => ?_)
      refine v_astore (lv' := [(0, .ref (ad 0)), (1, .int (zI p1)), (2, .int (zI p2)), (3, .ref (ad 64)), (4, .ref q)]) cx d_A_flood_20 (by decide) rfl rfl ?_
      refine v_iconst cx d_A_flood_22 ?_
      exact rt _ _ _ _ _ _ (Nat.le_of_ble_eq_true rfl) (Nat.le_of_ble_eq_true rfl) d_A_flood_23 ⟨by decide, by decide⟩ h
theorem yk_A_build : zYw y_A_build c_A_build 6 (some .int) [(0, 12, 15, 19), (0, 12, 19, 13), (0, 12, 23, 41)] 5 := ⟨ztc4 78 rfl rfl, ztc4 77 (by decide +kernel) rfl, ztc1 0 (by decide +kernel) rfl, by decide +kernel⟩
theorem lk_A_37 : Cond.methodLink "GentleRoadLaw" 37 y_R_build ∈ zT := ztc4 80 (by decide +kernel) rfl
def q_A_build (p1 : Int) (p2 : Int) (p3 : Int) (K : Int → zS → Prop) (σ : zS) : Prop := q_R_build p1 p2 p3 (fun r u => K 0 (zU u 64 0 r)) (fun E u => (E = "java/lang/IndexOutOfBoundsException" ∧ K 1 u) ∨ (E = "java/lang/IllegalArgumentException" ∧ K 2 u) ∨ (E = "java/lang/IllegalStateException" ∧ K 3 u)) σ
abbrev rm_A_build : Room := { frames := 9, cells := 5, slots := 30, locals := 167 }
set_option maxRecDepth 20000 in
set_option maxHeartbeats 4000000 in
theorem s_A_build {Ω : zO} {ad : Nat → Nat} {p1 : Int} {p2 : Int} {p3 : Int} {K : Int → zS → Prop} {σ : zS} (hp1 : zR p1) (hp2 : zR p2) (hp3 : zR p3) (h : q_A_build p1 p2 p3 K σ) : zXi Ω y_A_build (.codeWith y_A_build c_A_build 6 (some .int) [(0, 12, 15, 19), (0, 12, 19, 13), (0, 12, 23, 41)]) rm_A_build zLy ad [.ref (ad 0), .int (zI p1), .int (zI p2), .int (zI p3), .ref (ad 64)] σ K (fun _ _ => False) := by
  refine z_ofW (lv := [(0, .ref (ad 0)), (1, .int (zI p1)), (2, .int (zI p2)), (3, .int (zI p3)), (4, .ref (ad 64))]) (by decide) rfl (Nat.le_of_ble_eq_true rfl) ?_
  intro Γ Q cx rt htb
  refine v_aload cx 4 d_A_build_0 rfl ?_
  refine v_iconst cx d_A_build_2 ?_
  refine v_aload_n cx 0 d_A_build_3 rfl rfl ?_
  refine v_iload_n cx 1 d_A_build_4 rfl rfl ?_
  refine v_iload_n cx 2 d_A_build_5 rfl rfl ?_
  refine v_iload_n cx 3 d_A_build_6 rfl rfl ?_
  refine v_xcalli (st := [.int (zI 0), .ref (ad 64)]) cx (s_R_build hp1 hp2 hp3 h) yk_R_build lk_A_37 zl_0 rfl rfl rfl (Nat.le_of_ble_eq_true rfl) ⟨Nat.le_of_ble_eq_true rfl, Nat.le_of_ble_eq_true rfl⟩ ⟨Nat.le_of_ble_eq_true rfl, Nat.le_of_ble_eq_true rfl⟩ d_A_build_7 (fun r u hr h => ?_) (fun E u hX => ?_)
  · refine v_i2l cx hr d_A_build_10 ?_
    refine v_last cx zl_64 (by decide) (by decide) (by decide) hr d_A_build_11 ?_
    refine v_goto cx 27 d_A_build_12 (by decide) ?_
    refine v_iconst cx d_A_build_27 ?_
    exact rt _ _ _ _ _ _ (Nat.le_of_ble_eq_true rfl) (Nat.le_of_ble_eq_true rfl) d_A_build_28 zR_0 h
  · rcases hX with ⟨rfl, h⟩ | ⟨rfl, h⟩ | ⟨rfl, h⟩
    · refine v_catch cx (tableOf []) ⟨0, 12, 15, 19⟩ (tableOf [(0, 12, 19, 13), (0, 12, 23, 41)]) (by rw [htb]; rfl) (fun z hz => by cases hz) (by decide) (by decide) zcl_A_19 (List.mem_of_getElem? (i := 13) rfl) (fun q => ?_)
      refine v_astore (lv' := [(0, .ref (ad 0)), (1, .int (zI p1)), (2, .int (zI p2)), (3, .int (zI p3)), (4, .ref (ad 64)), (5, .ref q)]) cx d_A_build_15 (by decide) rfl rfl ?_
      refine v_iconst cx d_A_build_17 ?_
      exact rt _ _ _ _ _ _ (Nat.le_of_ble_eq_true rfl) (Nat.le_of_ble_eq_true rfl) d_A_build_18 ⟨by decide, by decide⟩ h
    · refine v_catch cx (tableOf [(0, 12, 15, 19)]) ⟨0, 12, 19, 13⟩ (tableOf [(0, 12, 23, 41)]) (by rw [htb]; rfl) (fun z hz => by
        simp only [tableOf, List.map_cons, List.map_nil, List.mem_cons, List.not_mem_nil, or_false] at hz
        rcases hz with rfl
        · exact ⟨by decide, "java/lang/IndexOutOfBoundsException", zcl_A_19, List.mem_of_getElem? (i := 1) rfl⟩) (by decide) (by decide) zcl_A_13 (List.mem_of_getElem? (i := 6) rfl) (fun q => ?_)
      refine v_astore (lv' := [(0, .ref (ad 0)), (1, .int (zI p1)), (2, .int (zI p2)), (3, .int (zI p3)), (4, .ref (ad 64)), (5, .ref q)]) cx d_A_build_19 (by decide) rfl rfl ?_
      refine v_iconst cx d_A_build_21 ?_
      exact rt _ _ _ _ _ _ (Nat.le_of_ble_eq_true rfl) (Nat.le_of_ble_eq_true rfl) d_A_build_22 ⟨by decide, by decide⟩ h
    · refine v_catch cx (tableOf [(0, 12, 15, 19), (0, 12, 19, 13)]) ⟨0, 12, 23, 41⟩ (tableOf []) (by rw [htb]; rfl) (fun z hz => by
        simp only [tableOf, List.map_cons, List.map_nil, List.mem_cons, List.not_mem_nil, or_false] at hz
        rcases hz with rfl | rfl
        · exact ⟨by decide, "java/lang/IndexOutOfBoundsException", zcl_A_19, List.mem_of_getElem? (i := 4) rfl⟩
        · exact ⟨by decide, "java/lang/IllegalArgumentException", zcl_A_13, List.mem_of_getElem? (i := 3) rfl⟩) (by decide) (by decide) zcl_A_41 (List.mem_of_getElem? (i := 23) rfl) (fun q => ?_)
      refine v_astore (lv' := [(0, .ref (ad 0)), (1, .int (zI p1)), (2, .int (zI p2)), (3, .int (zI p3)), (4, .ref (ad 64)), (5, .ref q)]) cx d_A_build_23 (by decide) rfl rfl ?_
      refine v_iconst cx d_A_build_25 ?_
      exact rt _ _ _ _ _ _ (Nat.le_of_ble_eq_true rfl) (Nat.le_of_ble_eq_true rfl) d_A_build_26 ⟨by decide, by decide⟩ h
theorem yk_A_drop : zYw y_A_drop c_A_drop 4 (some .int) [(0, 9, 12, 19), (0, 9, 15, 41)] 3 := ⟨ztc6 18 rfl rfl, ztc6 17 (by decide +kernel) rfl, ztc1 0 (by decide +kernel) rfl, by decide +kernel⟩
theorem lk_A_43 : Cond.methodLink "GentleRoadLaw" 43 y_R_drop ∈ zT := ztc6 19 (by decide +kernel) rfl
def q_A_drop (p1 : Int) (K : Int → zS → Prop) (σ : zS) : Prop := q_R_drop p1 (fun r u => K 0 (zU u 64 0 r)) (fun E u => (E = "java/lang/IndexOutOfBoundsException" ∧ K 1 u) ∨ (E = "java/lang/IllegalStateException" ∧ K 2 u)) σ
abbrev rm_A_drop : Room := { frames := 8, cells := 2, slots := 12, locals := 145 }
set_option maxRecDepth 20000 in
set_option maxHeartbeats 4000000 in
theorem s_A_drop {Ω : zO} {ad : Nat → Nat} {p1 : Int} {K : Int → zS → Prop} {σ : zS} (hp1 : zR p1) (h : q_A_drop p1 K σ) : zXi Ω y_A_drop (.codeWith y_A_drop c_A_drop 4 (some .int) [(0, 9, 12, 19), (0, 9, 15, 41)]) rm_A_drop zLy ad [.ref (ad 0), .int (zI p1), .ref (ad 64)] σ K (fun _ _ => False) := by
  refine z_ofW (lv := [(0, .ref (ad 0)), (1, .int (zI p1)), (2, .ref (ad 64))]) (by decide) rfl (Nat.le_of_ble_eq_true rfl) ?_
  intro Γ Q cx rt htb
  refine v_aload_n cx 2 d_A_drop_0 rfl rfl ?_
  refine v_iconst cx d_A_drop_1 ?_
  refine v_aload_n cx 0 d_A_drop_2 rfl rfl ?_
  refine v_iload_n cx 1 d_A_drop_3 rfl rfl ?_
  refine v_xcalli (st := [.int (zI 0), .ref (ad 64)]) cx (s_R_drop hp1 h) yk_R_drop lk_A_43 zl_0 rfl rfl rfl (Nat.le_of_ble_eq_true rfl) ⟨Nat.le_of_ble_eq_true rfl, Nat.le_of_ble_eq_true rfl⟩ ⟨Nat.le_of_ble_eq_true rfl, Nat.le_of_ble_eq_true rfl⟩ d_A_drop_4 (fun r u hr h => ?_) (fun E u hX => ?_)
  · refine v_i2l cx hr d_A_drop_7 ?_
    refine v_last cx zl_64 (by decide) (by decide) (by decide) hr d_A_drop_8 ?_
    refine v_goto cx 18 d_A_drop_9 (by decide) ?_
    refine v_iconst cx d_A_drop_18 ?_
    exact rt _ _ _ _ _ _ (Nat.le_of_ble_eq_true rfl) (Nat.le_of_ble_eq_true rfl) d_A_drop_19 zR_0 h
  · rcases hX with ⟨rfl, h⟩ | ⟨rfl, h⟩
    · refine v_catch cx (tableOf []) ⟨0, 9, 12, 19⟩ (tableOf [(0, 9, 15, 41)]) (by rw [htb]; rfl) (fun z hz => by cases hz) (by decide) (by decide) zcl_A_19 (List.mem_of_getElem? (i := 13) rfl) (fun q => ?_)
      refine v_astore_n (lv' := [(0, .ref (ad 0)), (1, .int (zI p1)), (2, .ref (ad 64)), (3, .ref q)]) cx d_A_drop_12 rfl (by decide) rfl rfl ?_
      refine v_iconst cx d_A_drop_13 ?_
      exact rt _ _ _ _ _ _ (Nat.le_of_ble_eq_true rfl) (Nat.le_of_ble_eq_true rfl) d_A_drop_14 ⟨by decide, by decide⟩ h
    · refine v_catch cx (tableOf [(0, 9, 12, 19)]) ⟨0, 9, 15, 41⟩ (tableOf []) (by rw [htb]; rfl) (fun z hz => by
        simp only [tableOf, List.map_cons, List.map_nil, List.mem_cons, List.not_mem_nil, or_false] at hz
        rcases hz with rfl
        · exact ⟨by decide, "java/lang/IndexOutOfBoundsException", zcl_A_19, List.mem_of_getElem? (i := 4) rfl⟩) (by decide) (by decide) zcl_A_41 (List.mem_of_getElem? (i := 23) rfl) (fun q => ?_)
      refine v_astore_n (lv' := [(0, .ref (ad 0)), (1, .int (zI p1)), (2, .ref (ad 64)), (3, .ref q)]) cx d_A_drop_15 rfl (by decide) rfl rfl ?_
      refine v_iconst cx d_A_drop_16 ?_
      exact rt _ _ _ _ _ _ (Nat.le_of_ble_eq_true rfl) (Nat.le_of_ble_eq_true rfl) d_A_drop_17 ⟨by decide, by decide⟩ h
theorem yk_A_level : zYw y_A_level c_A_level 5 (some .int) [(0, 10, 13, 19), (0, 10, 17, 13), (0, 10, 21, 41)] 4 := ⟨ztc6 33 rfl rfl, ztc6 32 (by decide +kernel) rfl, ztc1 0 (by decide +kernel) rfl, by decide +kernel⟩
theorem lk_A_46 : Cond.methodLink "GentleRoadLaw" 46 y_R_level ∈ zT := ztc6 34 (by decide +kernel) rfl
def q_A_level (p1 : Int) (p2 : Int) (K : Int → zS → Prop) (σ : zS) : Prop := q_R_level p1 p2 (fun r u => K 0 (zU u 64 0 r)) (fun E u => (E = "java/lang/IndexOutOfBoundsException" ∧ K 1 u) ∨ (E = "java/lang/IllegalArgumentException" ∧ K 2 u) ∨ (E = "java/lang/IllegalStateException" ∧ K 3 u)) σ
abbrev rm_A_level : Room := { frames := 8, cells := 4, slots := 24, locals := 146 }
set_option maxRecDepth 20000 in
set_option maxHeartbeats 4000000 in
theorem s_A_level {Ω : zO} {ad : Nat → Nat} {p1 : Int} {p2 : Int} {K : Int → zS → Prop} {σ : zS} (hp1 : zR p1) (hp2 : zR p2) (h : q_A_level p1 p2 K σ) : zXi Ω y_A_level (.codeWith y_A_level c_A_level 5 (some .int) [(0, 10, 13, 19), (0, 10, 17, 13), (0, 10, 21, 41)]) rm_A_level zLy ad [.ref (ad 0), .int (zI p1), .int (zI p2), .ref (ad 64)] σ K (fun _ _ => False) := by
  refine z_ofW (lv := [(0, .ref (ad 0)), (1, .int (zI p1)), (2, .int (zI p2)), (3, .ref (ad 64))]) (by decide) rfl (Nat.le_of_ble_eq_true rfl) ?_
  intro Γ Q cx rt htb
  refine v_aload_n cx 3 d_A_level_0 rfl rfl ?_
  refine v_iconst cx d_A_level_1 ?_
  refine v_aload_n cx 0 d_A_level_2 rfl rfl ?_
  refine v_iload_n cx 1 d_A_level_3 rfl rfl ?_
  refine v_iload_n cx 2 d_A_level_4 rfl rfl ?_
  refine v_xcalli (st := [.int (zI 0), .ref (ad 64)]) cx (s_R_level hp1 hp2 h) yk_R_level lk_A_46 zl_0 rfl rfl rfl (Nat.le_of_ble_eq_true rfl) ⟨Nat.le_of_ble_eq_true rfl, Nat.le_of_ble_eq_true rfl⟩ ⟨Nat.le_of_ble_eq_true rfl, Nat.le_of_ble_eq_true rfl⟩ d_A_level_5 (fun r u hr h => ?_) (fun E u hX => ?_)
  · refine v_i2l cx hr d_A_level_8 ?_
    refine v_last cx zl_64 (by decide) (by decide) (by decide) hr d_A_level_9 ?_
    refine v_goto cx 25 d_A_level_10 (by decide) ?_
    refine v_iconst cx d_A_level_25 ?_
    exact rt _ _ _ _ _ _ (Nat.le_of_ble_eq_true rfl) (Nat.le_of_ble_eq_true rfl) d_A_level_26 zR_0 h
  · rcases hX with ⟨rfl, h⟩ | ⟨rfl, h⟩ | ⟨rfl, h⟩
    · refine v_catch cx (tableOf []) ⟨0, 10, 13, 19⟩ (tableOf [(0, 10, 17, 13), (0, 10, 21, 41)]) (by rw [htb]; rfl) (fun z hz => by cases hz) (by decide) (by decide) zcl_A_19 (List.mem_of_getElem? (i := 13) rfl) (fun q => ?_)
      refine v_astore (lv' := [(0, .ref (ad 0)), (1, .int (zI p1)), (2, .int (zI p2)), (3, .ref (ad 64)), (4, .ref q)]) cx d_A_level_13 (by decide) rfl rfl ?_
      refine v_iconst cx d_A_level_15 ?_
      exact rt _ _ _ _ _ _ (Nat.le_of_ble_eq_true rfl) (Nat.le_of_ble_eq_true rfl) d_A_level_16 ⟨by decide, by decide⟩ h
    · refine v_catch cx (tableOf [(0, 10, 13, 19)]) ⟨0, 10, 17, 13⟩ (tableOf [(0, 10, 21, 41)]) (by rw [htb]; rfl) (fun z hz => by
        simp only [tableOf, List.map_cons, List.map_nil, List.mem_cons, List.not_mem_nil, or_false] at hz
        rcases hz with rfl
        · exact ⟨by decide, "java/lang/IndexOutOfBoundsException", zcl_A_19, List.mem_of_getElem? (i := 1) rfl⟩) (by decide) (by decide) zcl_A_13 (List.mem_of_getElem? (i := 6) rfl) (fun q => ?_)
      refine v_astore (lv' := [(0, .ref (ad 0)), (1, .int (zI p1)), (2, .int (zI p2)), (3, .ref (ad 64)), (4, .ref q)]) cx d_A_level_17 (by decide) rfl rfl ?_
      refine v_iconst cx d_A_level_19 ?_
      exact rt _ _ _ _ _ _ (Nat.le_of_ble_eq_true rfl) (Nat.le_of_ble_eq_true rfl) d_A_level_20 ⟨by decide, by decide⟩ h
    · refine v_catch cx (tableOf [(0, 10, 13, 19), (0, 10, 17, 13)]) ⟨0, 10, 21, 41⟩ (tableOf []) (by rw [htb]; rfl) (fun z hz => by
        simp only [tableOf, List.map_cons, List.map_nil, List.mem_cons, List.not_mem_nil, or_false] at hz
        rcases hz with rfl | rfl
        · exact ⟨by decide, "java/lang/IndexOutOfBoundsException", zcl_A_19, List.mem_of_getElem? (i := 4) rfl⟩
        · exact ⟨by decide, "java/lang/IllegalArgumentException", zcl_A_13, List.mem_of_getElem? (i := 3) rfl⟩) (by decide) (by decide) zcl_A_41 (List.mem_of_getElem? (i := 23) rfl) (fun q => ?_)
      refine v_astore (lv' := [(0, .ref (ad 0)), (1, .int (zI p1)), (2, .int (zI p2)), (3, .ref (ad 64)), (4, .ref q)]) cx d_A_level_21 (by decide) rfl rfl ?_
      refine v_iconst cx d_A_level_23 ?_
      exact rt _ _ _ _ _ _ (Nat.le_of_ble_eq_true rfl) (Nat.le_of_ble_eq_true rfl) d_A_level_24 ⟨by decide, by decide⟩ h
theorem yk_A_undo : zYw y_A_undo c_A_undo 3 (some .int) [(0, 8, 11, 41)] 2 := ⟨ztc6 88 rfl rfl, ztc6 87 (by decide +kernel) rfl, ztc1 0 (by decide +kernel) rfl, by decide +kernel⟩
theorem lk_A_49 : Cond.methodLink "GentleRoadLaw" 49 y_R_undo ∈ zT := ztc6 89 (by decide +kernel) rfl
def q_A_undo (K : Int → zS → Prop) (σ : zS) : Prop := q_R_undo (fun r u => K 0 (zU u 64 0 r)) (fun E u => (E = "java/lang/IllegalStateException" ∧ K 1 u)) σ
abbrev rm_A_undo : Room := { frames := 7, cells := 1, slots := 6, locals := 131 }
set_option maxRecDepth 20000 in
set_option maxHeartbeats 4000000 in
theorem s_A_undo {Ω : zO} {ad : Nat → Nat} {K : Int → zS → Prop} {σ : zS}  (h : q_A_undo K σ) : zXi Ω y_A_undo (.codeWith y_A_undo c_A_undo 3 (some .int) [(0, 8, 11, 41)]) rm_A_undo zLy ad [.ref (ad 0), .ref (ad 64)] σ K (fun _ _ => False) := by
  refine z_ofW (lv := [(0, .ref (ad 0)), (1, .ref (ad 64))]) (by decide) rfl (Nat.le_of_ble_eq_true rfl) ?_
  intro Γ Q cx rt htb
  refine v_aload_n cx 1 d_A_undo_0 rfl rfl ?_
  refine v_iconst cx d_A_undo_1 ?_
  refine v_aload_n cx 0 d_A_undo_2 rfl rfl ?_
  refine v_xcalli (st := [.int (zI 0), .ref (ad 64)]) cx (s_R_undo  h) yk_R_undo lk_A_49 zl_0 rfl rfl rfl (Nat.le_of_ble_eq_true rfl) ⟨Nat.le_of_ble_eq_true rfl, Nat.le_of_ble_eq_true rfl⟩ ⟨Nat.le_of_ble_eq_true rfl, Nat.le_of_ble_eq_true rfl⟩ d_A_undo_3 (fun r u hr h => ?_) (fun E u hX => ?_)
  · refine v_i2l cx hr d_A_undo_6 ?_
    refine v_last cx zl_64 (by decide) (by decide) (by decide) hr d_A_undo_7 ?_
    refine v_goto cx 14 d_A_undo_8 (by decide) ?_
    refine v_iconst cx d_A_undo_14 ?_
    exact rt _ _ _ _ _ _ (Nat.le_of_ble_eq_true rfl) (Nat.le_of_ble_eq_true rfl) d_A_undo_15 zR_0 h
  · rcases hX with ⟨rfl, h⟩
    · refine v_catch cx (tableOf []) ⟨0, 8, 11, 41⟩ (tableOf []) (by rw [htb]; rfl) (fun z hz => by cases hz) (by decide) (by decide) zcl_A_41 (List.mem_of_getElem? (i := 23) rfl) (fun q => ?_)
      refine v_astore_n (lv' := [(0, .ref (ad 0)), (1, .ref (ad 64)), (2, .ref q)]) cx d_A_undo_11 rfl (by decide) rfl rfl ?_
      refine v_iconst cx d_A_undo_12 ?_
      exact rt _ _ _ _ _ _ (Nat.le_of_ble_eq_true rfl) (Nat.le_of_ble_eq_true rfl) d_A_undo_13 ⟨by decide, by decide⟩ h
theorem yk_A_best : zYw y_A_best c_A_best 6 (some .int) [(0, 12, 15, 19), (0, 12, 19, 21), (0, 12, 23, 13)] 5 := ⟨ztc6 101 rfl rfl, ztc6 100 (by decide +kernel) rfl, ztc1 0 (by decide +kernel) rfl, by decide +kernel⟩
theorem lk_A_52 : Cond.methodLink "GentleRoadLaw" 52 y_R_best ∈ zT := ztc6 102 (by decide +kernel) rfl
def q_A_best (p1 : Int) (p2 : Int) (p3 : Int) (K : Int → zS → Prop) (σ : zS) : Prop := q_R_best p1 p2 p3 (fun r u => K 0 (zU u 64 0 r)) (fun E u => (E = "java/lang/IndexOutOfBoundsException" ∧ K 1 u) ∨ (E = "java/util/NoSuchElementException" ∧ K 2 u) ∨ (E = "java/lang/IllegalArgumentException" ∧ K 3 u)) σ
abbrev rm_A_best : Room := { frames := 9, cells := 4, slots := 24, locals := 166 }
set_option maxRecDepth 20000 in
set_option maxHeartbeats 4000000 in
theorem s_A_best {Ω : zO} {ad : Nat → Nat} {p1 : Int} {p2 : Int} {p3 : Int} {K : Int → zS → Prop} {σ : zS} (hp1 : zR p1) (hp2 : zR p2) (hp3 : zR p3) (h : q_A_best p1 p2 p3 K σ) : zXi Ω y_A_best (.codeWith y_A_best c_A_best 6 (some .int) [(0, 12, 15, 19), (0, 12, 19, 21), (0, 12, 23, 13)]) rm_A_best zLy ad [.ref (ad 0), .int (zI p1), .int (zI p2), .int (zI p3), .ref (ad 64)] σ K (fun _ _ => False) := by
  refine z_ofW (lv := [(0, .ref (ad 0)), (1, .int (zI p1)), (2, .int (zI p2)), (3, .int (zI p3)), (4, .ref (ad 64))]) (by decide) rfl (Nat.le_of_ble_eq_true rfl) ?_
  intro Γ Q cx rt htb
  refine v_aload cx 4 d_A_best_0 rfl ?_
  refine v_iconst cx d_A_best_2 ?_
  refine v_aload_n cx 0 d_A_best_3 rfl rfl ?_
  refine v_iload_n cx 1 d_A_best_4 rfl rfl ?_
  refine v_iload_n cx 2 d_A_best_5 rfl rfl ?_
  refine v_iload_n cx 3 d_A_best_6 rfl rfl ?_
  refine v_xcalli (st := [.int (zI 0), .ref (ad 64)]) cx (s_R_best hp1 hp2 hp3 h) yk_R_best lk_A_52 zl_0 rfl rfl rfl (Nat.le_of_ble_eq_true rfl) ⟨Nat.le_of_ble_eq_true rfl, Nat.le_of_ble_eq_true rfl⟩ ⟨Nat.le_of_ble_eq_true rfl, Nat.le_of_ble_eq_true rfl⟩ d_A_best_7 (fun r u hr h => ?_) (fun E u hX => ?_)
  · refine v_i2l cx hr d_A_best_10 ?_
    refine v_last cx zl_64 (by decide) (by decide) (by decide) hr d_A_best_11 ?_
    refine v_goto cx 27 d_A_best_12 (by decide) ?_
    refine v_iconst cx d_A_best_27 ?_
    exact rt _ _ _ _ _ _ (Nat.le_of_ble_eq_true rfl) (Nat.le_of_ble_eq_true rfl) d_A_best_28 zR_0 h
  · rcases hX with ⟨rfl, h⟩ | ⟨rfl, h⟩ | ⟨rfl, h⟩
    · refine v_catch cx (tableOf []) ⟨0, 12, 15, 19⟩ (tableOf [(0, 12, 19, 21), (0, 12, 23, 13)]) (by rw [htb]; rfl) (fun z hz => by cases hz) (by decide) (by decide) zcl_A_19 (List.mem_of_getElem? (i := 13) rfl) (fun q => ?_)
      refine v_astore (lv' := [(0, .ref (ad 0)), (1, .int (zI p1)), (2, .int (zI p2)), (3, .int (zI p3)), (4, .ref (ad 64)), (5, .ref q)]) cx d_A_best_15 (by decide) rfl rfl ?_
      refine v_iconst cx d_A_best_17 ?_
      exact rt _ _ _ _ _ _ (Nat.le_of_ble_eq_true rfl) (Nat.le_of_ble_eq_true rfl) d_A_best_18 ⟨by decide, by decide⟩ h
    · refine v_catch cx (tableOf [(0, 12, 15, 19)]) ⟨0, 12, 19, 21⟩ (tableOf [(0, 12, 23, 13)]) (by rw [htb]; rfl) (fun z hz => by
        simp only [tableOf, List.map_cons, List.map_nil, List.mem_cons, List.not_mem_nil, or_false] at hz
        rcases hz with rfl
        · exact ⟨by decide, "java/lang/IndexOutOfBoundsException", zcl_A_19, List.mem_of_getElem? (i := 11) rfl⟩) (by decide) (by decide) zcl_A_21 (List.mem_of_getElem? (i := 14) rfl) (fun q => ?_)
      refine v_astore (lv' := [(0, .ref (ad 0)), (1, .int (zI p1)), (2, .int (zI p2)), (3, .int (zI p3)), (4, .ref (ad 64)), (5, .ref q)]) cx d_A_best_19 (by decide) rfl rfl ?_
      refine v_iconst cx d_A_best_21 ?_
      exact rt _ _ _ _ _ _ (Nat.le_of_ble_eq_true rfl) (Nat.le_of_ble_eq_true rfl) d_A_best_22 ⟨by decide, by decide⟩ h
    · refine v_catch cx (tableOf [(0, 12, 15, 19), (0, 12, 19, 21)]) ⟨0, 12, 23, 13⟩ (tableOf []) (by rw [htb]; rfl) (fun z hz => by
        simp only [tableOf, List.map_cons, List.map_nil, List.mem_cons, List.not_mem_nil, or_false] at hz
        rcases hz with rfl | rfl
        · exact ⟨by decide, "java/lang/IndexOutOfBoundsException", zcl_A_19, List.mem_of_getElem? (i := 1) rfl⟩
        · exact ⟨by decide, "java/util/NoSuchElementException", zcl_A_21, List.mem_of_getElem? (i := 2) rfl⟩) (by decide) (by decide) zcl_A_13 (List.mem_of_getElem? (i := 6) rfl) (fun q => ?_)
      refine v_astore (lv' := [(0, .ref (ad 0)), (1, .int (zI p1)), (2, .int (zI p2)), (3, .int (zI p3)), (4, .ref (ad 64)), (5, .ref q)]) cx d_A_best_23 (by decide) rfl rfl ?_
      refine v_iconst cx d_A_best_25 ?_
      exact rt _ _ _ _ _ _ (Nat.le_of_ble_eq_true rfl) (Nat.le_of_ble_eq_true rfl) d_A_best_26 ⟨by decide, by decide⟩ h
theorem yk_A_along : zYw y_A_along c_A_along 7 (some .int) [(0, 14, 17, 19), (0, 14, 21, 21), (0, 14, 25, 13)] 6 := ⟨ztc6 112 rfl rfl, ztc6 111 (by decide +kernel) rfl, ztc1 0 (by decide +kernel) rfl, by decide +kernel⟩
theorem lk_A_55 : Cond.methodLink "GentleRoadLaw" 55 y_R_along ∈ zT := ztc6 113 (by decide +kernel) rfl
def q_A_along (p1 : Int) (p2 : Int) (p3 : Int) (p4 : Int) (K : Int → zS → Prop) (σ : zS) : Prop := q_R_along p1 p2 p3 p4 (fun r u => K 0 (zU u 64 0 r)) (fun E u => (E = "java/lang/IndexOutOfBoundsException" ∧ K 1 u) ∨ (E = "java/util/NoSuchElementException" ∧ K 2 u) ∨ (E = "java/lang/IllegalArgumentException" ∧ K 3 u)) σ
abbrev rm_A_along : Room := { frames := 9, cells := 4, slots := 24, locals := 167 }
set_option maxRecDepth 20000 in
set_option maxHeartbeats 4000000 in
theorem s_A_along {Ω : zO} {ad : Nat → Nat} {p1 : Int} {p2 : Int} {p3 : Int} {p4 : Int} {K : Int → zS → Prop} {σ : zS} (hp1 : zR p1) (hp2 : zR p2) (hp3 : zR p3) (hp4 : zR p4) (h : q_A_along p1 p2 p3 p4 K σ) : zXi Ω y_A_along (.codeWith y_A_along c_A_along 7 (some .int) [(0, 14, 17, 19), (0, 14, 21, 21), (0, 14, 25, 13)]) rm_A_along zLy ad [.ref (ad 0), .int (zI p1), .int (zI p2), .int (zI p3), .int (zI p4), .ref (ad 64)] σ K (fun _ _ => False) := by
  refine z_ofW (lv := [(0, .ref (ad 0)), (1, .int (zI p1)), (2, .int (zI p2)), (3, .int (zI p3)), (4, .int (zI p4)), (5, .ref (ad 64))]) (by decide) rfl (Nat.le_of_ble_eq_true rfl) ?_
  intro Γ Q cx rt htb
  refine v_aload cx 5 d_A_along_0 rfl ?_
  refine v_iconst cx d_A_along_2 ?_
  refine v_aload_n cx 0 d_A_along_3 rfl rfl ?_
  refine v_iload_n cx 1 d_A_along_4 rfl rfl ?_
  refine v_iload_n cx 2 d_A_along_5 rfl rfl ?_
  refine v_iload_n cx 3 d_A_along_6 rfl rfl ?_
  refine v_iload cx 4 d_A_along_7 rfl ?_
  refine v_xcalli (st := [.int (zI 0), .ref (ad 64)]) cx (s_R_along hp1 hp2 hp3 hp4 h) yk_R_along lk_A_55 zl_0 rfl rfl rfl (Nat.le_of_ble_eq_true rfl) ⟨Nat.le_of_ble_eq_true rfl, Nat.le_of_ble_eq_true rfl⟩ ⟨Nat.le_of_ble_eq_true rfl, Nat.le_of_ble_eq_true rfl⟩ d_A_along_9 (fun r u hr h => ?_) (fun E u hX => ?_)
  · refine v_i2l cx hr d_A_along_12 ?_
    refine v_last cx zl_64 (by decide) (by decide) (by decide) hr d_A_along_13 ?_
    refine v_goto cx 29 d_A_along_14 (by decide) ?_
    refine v_iconst cx d_A_along_29 ?_
    exact rt _ _ _ _ _ _ (Nat.le_of_ble_eq_true rfl) (Nat.le_of_ble_eq_true rfl) d_A_along_30 zR_0 h
  · rcases hX with ⟨rfl, h⟩ | ⟨rfl, h⟩ | ⟨rfl, h⟩
    · refine v_catch cx (tableOf []) ⟨0, 14, 17, 19⟩ (tableOf [(0, 14, 21, 21), (0, 14, 25, 13)]) (by rw [htb]; rfl) (fun z hz => by cases hz) (by decide) (by decide) zcl_A_19 (List.mem_of_getElem? (i := 13) rfl) (fun q => ?_)
      refine v_astore (lv' := [(0, .ref (ad 0)), (1, .int (zI p1)), (2, .int (zI p2)), (3, .int (zI p3)), (4, .int (zI p4)), (5, .ref (ad 64)), (6, .ref q)]) cx d_A_along_17 (by decide) rfl rfl ?_
      refine v_iconst cx d_A_along_19 ?_
      exact rt _ _ _ _ _ _ (Nat.le_of_ble_eq_true rfl) (Nat.le_of_ble_eq_true rfl) d_A_along_20 ⟨by decide, by decide⟩ h
    · refine v_catch cx (tableOf [(0, 14, 17, 19)]) ⟨0, 14, 21, 21⟩ (tableOf [(0, 14, 25, 13)]) (by rw [htb]; rfl) (fun z hz => by
        simp only [tableOf, List.map_cons, List.map_nil, List.mem_cons, List.not_mem_nil, or_false] at hz
        rcases hz with rfl
        · exact ⟨by decide, "java/lang/IndexOutOfBoundsException", zcl_A_19, List.mem_of_getElem? (i := 11) rfl⟩) (by decide) (by decide) zcl_A_21 (List.mem_of_getElem? (i := 14) rfl) (fun q => ?_)
      refine v_astore (lv' := [(0, .ref (ad 0)), (1, .int (zI p1)), (2, .int (zI p2)), (3, .int (zI p3)), (4, .int (zI p4)), (5, .ref (ad 64)), (6, .ref q)]) cx d_A_along_21 (by decide) rfl rfl ?_
      refine v_iconst cx d_A_along_23 ?_
      exact rt _ _ _ _ _ _ (Nat.le_of_ble_eq_true rfl) (Nat.le_of_ble_eq_true rfl) d_A_along_24 ⟨by decide, by decide⟩ h
    · refine v_catch cx (tableOf [(0, 14, 17, 19), (0, 14, 21, 21)]) ⟨0, 14, 25, 13⟩ (tableOf []) (by rw [htb]; rfl) (fun z hz => by
        simp only [tableOf, List.map_cons, List.map_nil, List.mem_cons, List.not_mem_nil, or_false] at hz
        rcases hz with rfl | rfl
        · exact ⟨by decide, "java/lang/IndexOutOfBoundsException", zcl_A_19, List.mem_of_getElem? (i := 1) rfl⟩
        · exact ⟨by decide, "java/util/NoSuchElementException", zcl_A_21, List.mem_of_getElem? (i := 2) rfl⟩) (by decide) (by decide) zcl_A_13 (List.mem_of_getElem? (i := 6) rfl) (fun q => ?_)
      refine v_astore (lv' := [(0, .ref (ad 0)), (1, .int (zI p1)), (2, .int (zI p2)), (3, .int (zI p3)), (4, .int (zI p4)), (5, .ref (ad 64)), (6, .ref q)]) cx d_A_along_25 (by decide) rfl rfl ?_
      refine v_iconst cx d_A_along_27 ?_
      exact rt _ _ _ _ _ _ (Nat.le_of_ble_eq_true rfl) (Nat.le_of_ble_eq_true rfl) d_A_along_28 ⟨by decide, by decide⟩ h
theorem yk_A_reach : zYw y_A_reach c_A_reach 4 (some .int) [(0, 9, 12, 19)] 3 := ⟨ztc6 119 rfl rfl, ztc6 118 (by decide +kernel) rfl, ztc1 0 (by decide +kernel) rfl, by decide +kernel⟩
theorem lk_A_59 : Cond.methodLink "GentleRoadLaw" 59 y_R_reach ∈ zT := ztc6 120 (by decide +kernel) rfl
def q_A_reach (p1 : Int) (K : Int → zS → Prop) (σ : zS) : Prop := q_R_reach p1 (fun r u => K 0 (zU u 64 0 r)) (fun E u => (E = "java/lang/IndexOutOfBoundsException" ∧ K 1 u)) σ
abbrev rm_A_reach : Room := { frames := 8, cells := 1, slots := 6, locals := 145 }
set_option maxRecDepth 20000 in
set_option maxHeartbeats 4000000 in
theorem s_A_reach {Ω : zO} {ad : Nat → Nat} {p1 : Int} {K : Int → zS → Prop} {σ : zS} (hp1 : zR p1) (h : q_A_reach p1 K σ) : zXi Ω y_A_reach (.codeWith y_A_reach c_A_reach 4 (some .int) [(0, 9, 12, 19)]) rm_A_reach zLy ad [.ref (ad 0), .int (zI p1), .ref (ad 64)] σ K (fun _ _ => False) := by
  refine z_ofW (lv := [(0, .ref (ad 0)), (1, .int (zI p1)), (2, .ref (ad 64))]) (by decide) rfl (Nat.le_of_ble_eq_true rfl) ?_
  intro Γ Q cx rt htb
  refine v_aload_n cx 2 d_A_reach_0 rfl rfl ?_
  refine v_iconst cx d_A_reach_1 ?_
  refine v_aload_n cx 0 d_A_reach_2 rfl rfl ?_
  refine v_iload_n cx 1 d_A_reach_3 rfl rfl ?_
  refine v_xcalli (st := [.int (zI 0), .ref (ad 64)]) cx (s_R_reach hp1 h) yk_R_reach lk_A_59 zl_0 rfl rfl rfl (Nat.le_of_ble_eq_true rfl) ⟨Nat.le_of_ble_eq_true rfl, Nat.le_of_ble_eq_true rfl⟩ ⟨Nat.le_of_ble_eq_true rfl, Nat.le_of_ble_eq_true rfl⟩ d_A_reach_4 (fun r u hr h => ?_) (fun E u hX => ?_)
  · refine v_i2l cx hr d_A_reach_7 ?_
    refine v_last cx zl_64 (by decide) (by decide) (by decide) hr d_A_reach_8 ?_
    refine v_goto cx 15 d_A_reach_9 (by decide) ?_
    refine v_iconst cx d_A_reach_15 ?_
    exact rt _ _ _ _ _ _ (Nat.le_of_ble_eq_true rfl) (Nat.le_of_ble_eq_true rfl) d_A_reach_16 zR_0 h
  · rcases hX with ⟨rfl, h⟩
    · refine v_catch cx (tableOf []) ⟨0, 9, 12, 19⟩ (tableOf []) (by rw [htb]; rfl) (fun z hz => by cases hz) (by decide) (by decide) zcl_A_19 (List.mem_of_getElem? (i := 13) rfl) (fun q => ?_)
      refine v_astore_n (lv' := [(0, .ref (ad 0)), (1, .int (zI p1)), (2, .ref (ad 64)), (3, .ref q)]) cx d_A_reach_12 rfl (by decide) rfl rfl ?_
      refine v_iconst cx d_A_reach_13 ?_
      exact rt _ _ _ _ _ _ (Nat.le_of_ble_eq_true rfl) (Nat.le_of_ble_eq_true rfl) d_A_reach_14 ⟨by decide, by decide⟩ h
theorem yk_A_grade : zYw y_A_grade c_A_grade 5 (some .int) [(0, 10, 13, 19), (0, 10, 17, 13)] 4 := ⟨ztc6 141 rfl rfl, ztc6 140 (by decide +kernel) rfl, ztc1 0 (by decide +kernel) rfl, by decide +kernel⟩
theorem lk_A_62 : Cond.methodLink "GentleRoadLaw" 62 y_R_grade ∈ zT := ztc6 142 (by decide +kernel) rfl
def q_A_grade (p1 : Int) (p2 : Int) (K : Int → zS → Prop) (σ : zS) : Prop := q_R_grade p1 p2 (fun r u => K 0 (zU u 64 0 r)) (fun E u => (E = "java/lang/IndexOutOfBoundsException" ∧ K 1 u) ∨ (E = "java/lang/IllegalArgumentException" ∧ K 2 u)) σ
abbrev rm_A_grade : Room := { frames := 9, cells := 3, slots := 18, locals := 171 }
set_option maxRecDepth 20000 in
set_option maxHeartbeats 4000000 in
theorem s_A_grade {Ω : zO} {ad : Nat → Nat} {p1 : Int} {p2 : Int} {K : Int → zS → Prop} {σ : zS} (hp1 : zR p1) (hp2 : zR p2) (h : q_A_grade p1 p2 K σ) : zXi Ω y_A_grade (.codeWith y_A_grade c_A_grade 5 (some .int) [(0, 10, 13, 19), (0, 10, 17, 13)]) rm_A_grade zLy ad [.ref (ad 0), .int (zI p1), .int (zI p2), .ref (ad 64)] σ K (fun _ _ => False) := by
  refine z_ofW (lv := [(0, .ref (ad 0)), (1, .int (zI p1)), (2, .int (zI p2)), (3, .ref (ad 64))]) (by decide) rfl (Nat.le_of_ble_eq_true rfl) ?_
  intro Γ Q cx rt htb
  refine v_aload_n cx 3 d_A_grade_0 rfl rfl ?_
  refine v_iconst cx d_A_grade_1 ?_
  refine v_aload_n cx 0 d_A_grade_2 rfl rfl ?_
  refine v_iload_n cx 1 d_A_grade_3 rfl rfl ?_
  refine v_iload_n cx 2 d_A_grade_4 rfl rfl ?_
  refine v_xcalli (st := [.int (zI 0), .ref (ad 64)]) cx (s_R_grade hp1 hp2 h) yk_R_grade lk_A_62 zl_0 rfl rfl rfl (Nat.le_of_ble_eq_true rfl) ⟨Nat.le_of_ble_eq_true rfl, Nat.le_of_ble_eq_true rfl⟩ ⟨Nat.le_of_ble_eq_true rfl, Nat.le_of_ble_eq_true rfl⟩ d_A_grade_5 (fun r u hr h => ?_) (fun E u hX => ?_)
  · refine v_i2l cx hr d_A_grade_8 ?_
    refine v_last cx zl_64 (by decide) (by decide) (by decide) hr d_A_grade_9 ?_
    refine v_goto cx 21 d_A_grade_10 (by decide) ?_
    refine v_iconst cx d_A_grade_21 ?_
    exact rt _ _ _ _ _ _ (Nat.le_of_ble_eq_true rfl) (Nat.le_of_ble_eq_true rfl) d_A_grade_22 zR_0 h
  · rcases hX with ⟨rfl, h⟩ | ⟨rfl, h⟩
    · refine v_catch cx (tableOf []) ⟨0, 10, 13, 19⟩ (tableOf [(0, 10, 17, 13)]) (by rw [htb]; rfl) (fun z hz => by cases hz) (by decide) (by decide) zcl_A_19 (List.mem_of_getElem? (i := 13) rfl) (fun q => ?_)
      refine v_astore (lv' := [(0, .ref (ad 0)), (1, .int (zI p1)), (2, .int (zI p2)), (3, .ref (ad 64)), (4, .ref q)]) cx d_A_grade_13 (by decide) rfl rfl ?_
      refine v_iconst cx d_A_grade_15 ?_
      exact rt _ _ _ _ _ _ (Nat.le_of_ble_eq_true rfl) (Nat.le_of_ble_eq_true rfl) d_A_grade_16 ⟨by decide, by decide⟩ h
    · refine v_catch cx (tableOf [(0, 10, 13, 19)]) ⟨0, 10, 17, 13⟩ (tableOf []) (by rw [htb]; rfl) (fun z hz => by
        simp only [tableOf, List.map_cons, List.map_nil, List.mem_cons, List.not_mem_nil, or_false] at hz
        rcases hz with rfl
        · exact ⟨by decide, "java/lang/IndexOutOfBoundsException", zcl_A_19, List.mem_of_getElem? (i := 1) rfl⟩) (by decide) (by decide) zcl_A_13 (List.mem_of_getElem? (i := 6) rfl) (fun q => ?_)
      refine v_astore (lv' := [(0, .ref (ad 0)), (1, .int (zI p1)), (2, .int (zI p2)), (3, .ref (ad 64)), (4, .ref q)]) cx d_A_grade_17 (by decide) rfl rfl ?_
      refine v_iconst cx d_A_grade_19 ?_
      exact rt _ _ _ _ _ _ (Nat.le_of_ble_eq_true rfl) (Nat.le_of_ble_eq_true rfl) d_A_grade_20 ⟨by decide, by decide⟩ h
theorem yk_A_gate : zYw y_A_gate c_A_gate 5 (some .int) [(0, 10, 13, 19), (0, 10, 17, 13)] 4 := ⟨ztc6 156 rfl rfl, ztc6 155 (by decide +kernel) rfl, ztc1 0 (by decide +kernel) rfl, by decide +kernel⟩
theorem lk_A_65 : Cond.methodLink "GentleRoadLaw" 65 y_R_gate ∈ zT := ztc6 157 (by decide +kernel) rfl
def q_A_gate (p1 : Int) (p2 : Int) (K : Int → zS → Prop) (σ : zS) : Prop := q_R_gate p1 p2 (fun r u => K 0 (zU u 64 0 r)) (fun E u => (E = "java/lang/IndexOutOfBoundsException" ∧ K 1 u) ∨ (E = "java/lang/IllegalArgumentException" ∧ K 2 u)) σ
abbrev rm_A_gate : Room := { frames := 9, cells := 3, slots := 18, locals := 193 }
set_option maxRecDepth 20000 in
set_option maxHeartbeats 4000000 in
theorem s_A_gate {Ω : zO} {ad : Nat → Nat} {p1 : Int} {p2 : Int} {K : Int → zS → Prop} {σ : zS} (hp1 : zR p1) (hp2 : zR p2) (h : q_A_gate p1 p2 K σ) : zXi Ω y_A_gate (.codeWith y_A_gate c_A_gate 5 (some .int) [(0, 10, 13, 19), (0, 10, 17, 13)]) rm_A_gate zLy ad [.ref (ad 0), .int (zI p1), .int (zI p2), .ref (ad 64)] σ K (fun _ _ => False) := by
  refine z_ofW (lv := [(0, .ref (ad 0)), (1, .int (zI p1)), (2, .int (zI p2)), (3, .ref (ad 64))]) (by decide) rfl (Nat.le_of_ble_eq_true rfl) ?_
  intro Γ Q cx rt htb
  refine v_aload_n cx 3 d_A_gate_0 rfl rfl ?_
  refine v_iconst cx d_A_gate_1 ?_
  refine v_aload_n cx 0 d_A_gate_2 rfl rfl ?_
  refine v_iload_n cx 1 d_A_gate_3 rfl rfl ?_
  refine v_iload_n cx 2 d_A_gate_4 rfl rfl ?_
  refine v_xcalli (st := [.int (zI 0), .ref (ad 64)]) cx (s_R_gate hp1 hp2 h) yk_R_gate lk_A_65 zl_0 rfl rfl rfl (Nat.le_of_ble_eq_true rfl) ⟨Nat.le_of_ble_eq_true rfl, Nat.le_of_ble_eq_true rfl⟩ ⟨Nat.le_of_ble_eq_true rfl, Nat.le_of_ble_eq_true rfl⟩ d_A_gate_5 (fun r u hr h => ?_) (fun E u hX => ?_)
  · refine v_i2l cx hr d_A_gate_8 ?_
    refine v_last cx zl_64 (by decide) (by decide) (by decide) hr d_A_gate_9 ?_
    refine v_goto cx 21 d_A_gate_10 (by decide) ?_
    refine v_iconst cx d_A_gate_21 ?_
    exact rt _ _ _ _ _ _ (Nat.le_of_ble_eq_true rfl) (Nat.le_of_ble_eq_true rfl) d_A_gate_22 zR_0 h
  · rcases hX with ⟨rfl, h⟩ | ⟨rfl, h⟩
    · refine v_catch cx (tableOf []) ⟨0, 10, 13, 19⟩ (tableOf [(0, 10, 17, 13)]) (by rw [htb]; rfl) (fun z hz => by cases hz) (by decide) (by decide) zcl_A_19 (List.mem_of_getElem? (i := 13) rfl) (fun q => ?_)
      refine v_astore (lv' := [(0, .ref (ad 0)), (1, .int (zI p1)), (2, .int (zI p2)), (3, .ref (ad 64)), (4, .ref q)]) cx d_A_gate_13 (by decide) rfl rfl ?_
      refine v_iconst cx d_A_gate_15 ?_
      exact rt _ _ _ _ _ _ (Nat.le_of_ble_eq_true rfl) (Nat.le_of_ble_eq_true rfl) d_A_gate_16 ⟨by decide, by decide⟩ h
    · refine v_catch cx (tableOf [(0, 10, 13, 19)]) ⟨0, 10, 17, 13⟩ (tableOf []) (by rw [htb]; rfl) (fun z hz => by
        simp only [tableOf, List.map_cons, List.map_nil, List.mem_cons, List.not_mem_nil, or_false] at hz
        rcases hz with rfl
        · exact ⟨by decide, "java/lang/IndexOutOfBoundsException", zcl_A_19, List.mem_of_getElem? (i := 1) rfl⟩) (by decide) (by decide) zcl_A_13 (List.mem_of_getElem? (i := 6) rfl) (fun q => ?_)
      refine v_astore (lv' := [(0, .ref (ad 0)), (1, .int (zI p1)), (2, .int (zI p2)), (3, .ref (ad 64)), (4, .ref q)]) cx d_A_gate_17 (by decide) rfl rfl ?_
      refine v_iconst cx d_A_gate_19 ?_
      exact rt _ _ _ _ _ _ (Nat.le_of_ble_eq_true rfl) (Nat.le_of_ble_eq_true rfl) d_A_gate_20 ⟨by decide, by decide⟩ h
theorem yk_A_bored : zYw y_A_bored c_A_bored 6 (some .int) [(0, 12, 15, 19), (0, 12, 19, 13)] 5 := ⟨ztc6 183 rfl rfl, ztc6 182 (by decide +kernel) rfl, ztc1 0 (by decide +kernel) rfl, by decide +kernel⟩
theorem lk_A_68 : Cond.methodLink "GentleRoadLaw" 68 y_R_bored ∈ zT := ztc6 184 (by decide +kernel) rfl
def q_A_bored (p1 : Int) (p2 : Int) (p3 : Int) (K : Int → zS → Prop) (σ : zS) : Prop := q_R_bored p1 p2 p3 (fun r u => K 0 (zU u 64 0 r)) (fun E u => (E = "java/lang/IndexOutOfBoundsException" ∧ K 1 u) ∨ (E = "java/lang/IllegalArgumentException" ∧ K 2 u)) σ
abbrev rm_A_bored : Room := { frames := 9, cells := 4, slots := 24, locals := 166 }
set_option maxRecDepth 20000 in
set_option maxHeartbeats 4000000 in
theorem s_A_bored {Ω : zO} {ad : Nat → Nat} {p1 : Int} {p2 : Int} {p3 : Int} {K : Int → zS → Prop} {σ : zS} (hp1 : zR p1) (hp2 : zR p2) (hp3 : zR p3) (h : q_A_bored p1 p2 p3 K σ) : zXi Ω y_A_bored (.codeWith y_A_bored c_A_bored 6 (some .int) [(0, 12, 15, 19), (0, 12, 19, 13)]) rm_A_bored zLy ad [.ref (ad 0), .int (zI p1), .int (zI p2), .int (zI p3), .ref (ad 64)] σ K (fun _ _ => False) := by
  refine z_ofW (lv := [(0, .ref (ad 0)), (1, .int (zI p1)), (2, .int (zI p2)), (3, .int (zI p3)), (4, .ref (ad 64))]) (by decide) rfl (Nat.le_of_ble_eq_true rfl) ?_
  intro Γ Q cx rt htb
  refine v_aload cx 4 d_A_bored_0 rfl ?_
  refine v_iconst cx d_A_bored_2 ?_
  refine v_aload_n cx 0 d_A_bored_3 rfl rfl ?_
  refine v_iload_n cx 1 d_A_bored_4 rfl rfl ?_
  refine v_iload_n cx 2 d_A_bored_5 rfl rfl ?_
  refine v_iload_n cx 3 d_A_bored_6 rfl rfl ?_
  refine v_xcalli (st := [.int (zI 0), .ref (ad 64)]) cx (s_R_bored hp1 hp2 hp3 h) yk_R_bored lk_A_68 zl_0 rfl rfl rfl (Nat.le_of_ble_eq_true rfl) ⟨Nat.le_of_ble_eq_true rfl, Nat.le_of_ble_eq_true rfl⟩ ⟨Nat.le_of_ble_eq_true rfl, Nat.le_of_ble_eq_true rfl⟩ d_A_bored_7 (fun r u hr h => ?_) (fun E u hX => ?_)
  · refine v_i2l cx hr d_A_bored_10 ?_
    refine v_last cx zl_64 (by decide) (by decide) (by decide) hr d_A_bored_11 ?_
    refine v_goto cx 23 d_A_bored_12 (by decide) ?_
    refine v_iconst cx d_A_bored_23 ?_
    exact rt _ _ _ _ _ _ (Nat.le_of_ble_eq_true rfl) (Nat.le_of_ble_eq_true rfl) d_A_bored_24 zR_0 h
  · rcases hX with ⟨rfl, h⟩ | ⟨rfl, h⟩
    · refine v_catch cx (tableOf []) ⟨0, 12, 15, 19⟩ (tableOf [(0, 12, 19, 13)]) (by rw [htb]; rfl) (fun z hz => by cases hz) (by decide) (by decide) zcl_A_19 (List.mem_of_getElem? (i := 13) rfl) (fun q => ?_)
      refine v_astore (lv' := [(0, .ref (ad 0)), (1, .int (zI p1)), (2, .int (zI p2)), (3, .int (zI p3)), (4, .ref (ad 64)), (5, .ref q)]) cx d_A_bored_15 (by decide) rfl rfl ?_
      refine v_iconst cx d_A_bored_17 ?_
      exact rt _ _ _ _ _ _ (Nat.le_of_ble_eq_true rfl) (Nat.le_of_ble_eq_true rfl) d_A_bored_18 ⟨by decide, by decide⟩ h
    · refine v_catch cx (tableOf [(0, 12, 15, 19)]) ⟨0, 12, 19, 13⟩ (tableOf []) (by rw [htb]; rfl) (fun z hz => by
        simp only [tableOf, List.map_cons, List.map_nil, List.mem_cons, List.not_mem_nil, or_false] at hz
        rcases hz with rfl
        · exact ⟨by decide, "java/lang/IndexOutOfBoundsException", zcl_A_19, List.mem_of_getElem? (i := 1) rfl⟩) (by decide) (by decide) zcl_A_13 (List.mem_of_getElem? (i := 6) rfl) (fun q => ?_)
      refine v_astore (lv' := [(0, .ref (ad 0)), (1, .int (zI p1)), (2, .int (zI p2)), (3, .int (zI p3)), (4, .ref (ad 64)), (5, .ref q)]) cx d_A_bored_19 (by decide) rfl rfl ?_
      refine v_iconst cx d_A_bored_21 ?_
      exact rt _ _ _ _ _ _ (Nat.le_of_ble_eq_true rfl) (Nat.le_of_ble_eq_true rfl) d_A_bored_22 ⟨by decide, by decide⟩ h
theorem yk_A_meet : zYw y_A_meet c_A_meet 7 (some .int) [(0, 14, 17, 19), (0, 14, 21, 21), (0, 14, 25, 13)] 6 := ⟨ztc6 194 rfl rfl, ztc6 193 (by decide +kernel) rfl, ztc1 0 (by decide +kernel) rfl, by decide +kernel⟩
theorem lk_A_71 : Cond.methodLink "GentleRoadLaw" 71 y_R_meet ∈ zT := ztc6 195 (by decide +kernel) rfl
def q_A_meet (p1 : Int) (p2 : Int) (p3 : Int) (p4 : Int) (K : Int → zS → Prop) (σ : zS) : Prop := q_R_meet p1 p2 p3 p4 (fun r u => K 0 (zU u 64 0 r)) (fun E u => (E = "java/lang/IndexOutOfBoundsException" ∧ K 1 u) ∨ (E = "java/util/NoSuchElementException" ∧ K 2 u) ∨ (E = "java/lang/IllegalArgumentException" ∧ K 3 u)) σ
abbrev rm_A_meet : Room := { frames := 9, cells := 7, slots := 42, locals := 170 }
set_option maxRecDepth 20000 in
set_option maxHeartbeats 4000000 in
theorem s_A_meet {Ω : zO} {ad : Nat → Nat} {p1 : Int} {p2 : Int} {p3 : Int} {p4 : Int} {K : Int → zS → Prop} {σ : zS} (hp1 : zR p1) (hp2 : zR p2) (hp3 : zR p3) (hp4 : zR p4) (h : q_A_meet p1 p2 p3 p4 K σ) : zXi Ω y_A_meet (.codeWith y_A_meet c_A_meet 7 (some .int) [(0, 14, 17, 19), (0, 14, 21, 21), (0, 14, 25, 13)]) rm_A_meet zLy ad [.ref (ad 0), .int (zI p1), .int (zI p2), .int (zI p3), .int (zI p4), .ref (ad 64)] σ K (fun _ _ => False) := by
  refine z_ofW (lv := [(0, .ref (ad 0)), (1, .int (zI p1)), (2, .int (zI p2)), (3, .int (zI p3)), (4, .int (zI p4)), (5, .ref (ad 64))]) (by decide) rfl (Nat.le_of_ble_eq_true rfl) ?_
  intro Γ Q cx rt htb
  refine v_aload cx 5 d_A_meet_0 rfl ?_
  refine v_iconst cx d_A_meet_2 ?_
  refine v_aload_n cx 0 d_A_meet_3 rfl rfl ?_
  refine v_iload_n cx 1 d_A_meet_4 rfl rfl ?_
  refine v_iload_n cx 2 d_A_meet_5 rfl rfl ?_
  refine v_iload_n cx 3 d_A_meet_6 rfl rfl ?_
  refine v_iload cx 4 d_A_meet_7 rfl ?_
  refine v_xcalli (st := [.int (zI 0), .ref (ad 64)]) cx (s_R_meet hp1 hp2 hp3 hp4 h) yk_R_meet lk_A_71 zl_0 rfl rfl rfl (Nat.le_of_ble_eq_true rfl) ⟨Nat.le_of_ble_eq_true rfl, Nat.le_of_ble_eq_true rfl⟩ ⟨Nat.le_of_ble_eq_true rfl, Nat.le_of_ble_eq_true rfl⟩ d_A_meet_9 (fun r u hr h => ?_) (fun E u hX => ?_)
  · refine v_i2l cx hr d_A_meet_12 ?_
    refine v_last cx zl_64 (by decide) (by decide) (by decide) hr d_A_meet_13 ?_
    refine v_goto cx 29 d_A_meet_14 (by decide) ?_
    refine v_iconst cx d_A_meet_29 ?_
    exact rt _ _ _ _ _ _ (Nat.le_of_ble_eq_true rfl) (Nat.le_of_ble_eq_true rfl) d_A_meet_30 zR_0 h
  · rcases hX with ⟨rfl, h⟩ | ⟨rfl, h⟩ | ⟨rfl, h⟩
    · refine v_catch cx (tableOf []) ⟨0, 14, 17, 19⟩ (tableOf [(0, 14, 21, 21), (0, 14, 25, 13)]) (by rw [htb]; rfl) (fun z hz => by cases hz) (by decide) (by decide) zcl_A_19 (List.mem_of_getElem? (i := 13) rfl) (fun q => ?_)
      refine v_astore (lv' := [(0, .ref (ad 0)), (1, .int (zI p1)), (2, .int (zI p2)), (3, .int (zI p3)), (4, .int (zI p4)), (5, .ref (ad 64)), (6, .ref q)]) cx d_A_meet_17 (by decide) rfl rfl ?_
      refine v_iconst cx d_A_meet_19 ?_
      exact rt _ _ _ _ _ _ (Nat.le_of_ble_eq_true rfl) (Nat.le_of_ble_eq_true rfl) d_A_meet_20 ⟨by decide, by decide⟩ h
    · refine v_catch cx (tableOf [(0, 14, 17, 19)]) ⟨0, 14, 21, 21⟩ (tableOf [(0, 14, 25, 13)]) (by rw [htb]; rfl) (fun z hz => by
        simp only [tableOf, List.map_cons, List.map_nil, List.mem_cons, List.not_mem_nil, or_false] at hz
        rcases hz with rfl
        · exact ⟨by decide, "java/lang/IndexOutOfBoundsException", zcl_A_19, List.mem_of_getElem? (i := 11) rfl⟩) (by decide) (by decide) zcl_A_21 (List.mem_of_getElem? (i := 14) rfl) (fun q => ?_)
      refine v_astore (lv' := [(0, .ref (ad 0)), (1, .int (zI p1)), (2, .int (zI p2)), (3, .int (zI p3)), (4, .int (zI p4)), (5, .ref (ad 64)), (6, .ref q)]) cx d_A_meet_21 (by decide) rfl rfl ?_
      refine v_iconst cx d_A_meet_23 ?_
      exact rt _ _ _ _ _ _ (Nat.le_of_ble_eq_true rfl) (Nat.le_of_ble_eq_true rfl) d_A_meet_24 ⟨by decide, by decide⟩ h
    · refine v_catch cx (tableOf [(0, 14, 17, 19), (0, 14, 21, 21)]) ⟨0, 14, 25, 13⟩ (tableOf []) (by rw [htb]; rfl) (fun z hz => by
        simp only [tableOf, List.map_cons, List.map_nil, List.mem_cons, List.not_mem_nil, or_false] at hz
        rcases hz with rfl | rfl
        · exact ⟨by decide, "java/lang/IndexOutOfBoundsException", zcl_A_19, List.mem_of_getElem? (i := 1) rfl⟩
        · exact ⟨by decide, "java/util/NoSuchElementException", zcl_A_21, List.mem_of_getElem? (i := 2) rfl⟩) (by decide) (by decide) zcl_A_13 (List.mem_of_getElem? (i := 6) rfl) (fun q => ?_)
      refine v_astore (lv' := [(0, .ref (ad 0)), (1, .int (zI p1)), (2, .int (zI p2)), (3, .int (zI p3)), (4, .int (zI p4)), (5, .ref (ad 64)), (6, .ref q)]) cx d_A_meet_25 (by decide) rfl rfl ?_
      refine v_iconst cx d_A_meet_27 ?_
      exact rt _ _ _ _ _ _ (Nat.le_of_ble_eq_true rfl) (Nat.le_of_ble_eq_true rfl) d_A_meet_28 ⟨by decide, by decide⟩ h
theorem yk_A_round : zYw y_A_round c_A_round 3 (some .int) [(0, 8, 11, 13)] 2 := ⟨ztc6 226 rfl rfl, ztc6 225 (by decide +kernel) rfl, ztc1 0 (by decide +kernel) rfl, by decide +kernel⟩
theorem lk_A_74 : Cond.methodLink "GentleRoadLaw" 74 y_R_round ∈ zT := ztc6 227 (by decide +kernel) rfl
def q_A_round (K : Int → zS → Prop) (σ : zS) : Prop := q_R_round (fun r u => K 0 (zU u 64 0 r)) (fun E u => (E = "java/lang/IllegalArgumentException" ∧ K 1 u)) σ
abbrev rm_A_round : Room := { frames := 8, cells := 1, slots := 6, locals := 189 }
set_option maxRecDepth 20000 in
set_option maxHeartbeats 4000000 in
theorem s_A_round {Ω : zO} {ad : Nat → Nat} {K : Int → zS → Prop} {σ : zS}  (h : q_A_round K σ) : zXi Ω y_A_round (.codeWith y_A_round c_A_round 3 (some .int) [(0, 8, 11, 13)]) rm_A_round zLy ad [.ref (ad 0), .ref (ad 64)] σ K (fun _ _ => False) := by
  refine z_ofW (lv := [(0, .ref (ad 0)), (1, .ref (ad 64))]) (by decide) rfl (Nat.le_of_ble_eq_true rfl) ?_
  intro Γ Q cx rt htb
  refine v_aload_n cx 1 d_A_round_0 rfl rfl ?_
  refine v_iconst cx d_A_round_1 ?_
  refine v_aload_n cx 0 d_A_round_2 rfl rfl ?_
  refine v_xcalli (st := [.int (zI 0), .ref (ad 64)]) cx (s_R_round  h) yk_R_round lk_A_74 zl_0 rfl rfl rfl (Nat.le_of_ble_eq_true rfl) ⟨Nat.le_of_ble_eq_true rfl, Nat.le_of_ble_eq_true rfl⟩ ⟨Nat.le_of_ble_eq_true rfl, Nat.le_of_ble_eq_true rfl⟩ d_A_round_3 (fun r u hr h => ?_) (fun E u hX => ?_)
  · refine v_i2l cx hr d_A_round_6 ?_
    refine v_last cx zl_64 (by decide) (by decide) (by decide) hr d_A_round_7 ?_
    refine v_goto cx 14 d_A_round_8 (by decide) ?_
    refine v_iconst cx d_A_round_14 ?_
    exact rt _ _ _ _ _ _ (Nat.le_of_ble_eq_true rfl) (Nat.le_of_ble_eq_true rfl) d_A_round_15 zR_0 h
  · rcases hX with ⟨rfl, h⟩
    · refine v_catch cx (tableOf []) ⟨0, 8, 11, 13⟩ (tableOf []) (by rw [htb]; rfl) (fun z hz => by cases hz) (by decide) (by decide) zcl_A_13 (List.mem_of_getElem? (i := 6) rfl) (fun q => ?_)
      refine v_astore_n (lv' := [(0, .ref (ad 0)), (1, .ref (ad 64)), (2, .ref q)]) cx d_A_round_11 rfl (by decide) rfl rfl ?_
      refine v_iconst cx d_A_round_12 ?_
      exact rt _ _ _ _ _ _ (Nat.le_of_ble_eq_true rfl) (Nat.le_of_ble_eq_true rfl) d_A_round_13 ⟨by decide, by decide⟩ h
theorem yk_A_road : zYw y_A_road c_A_road 5 (some .int) [(0, 10, 13, 19), (0, 10, 17, 21), (0, 10, 21, 41)] 4 := ⟨ztc7 12 rfl rfl, ztc7 11 (by decide +kernel) rfl, ztc1 0 (by decide +kernel) rfl, by decide +kernel⟩
theorem lk_A_77 : Cond.methodLink "GentleRoadLaw" 77 y_R_road ∈ zT := ztc7 13 (by decide +kernel) rfl
def q_A_road (p1 : Int) (p2 : Int) (K : Int → zS → Prop) (σ : zS) : Prop := q_R_road p1 p2 (fun r u => K 0 (zU u 64 0 r)) (fun E u => (E = "java/lang/IndexOutOfBoundsException" ∧ K 1 u) ∨ (E = "java/util/NoSuchElementException" ∧ K 2 u) ∨ (E = "java/lang/IllegalStateException" ∧ K 3 u)) σ
abbrev rm_A_road : Room := { frames := 8, cells := 3, slots := 18, locals := 191 }
set_option maxRecDepth 20000 in
set_option maxHeartbeats 4000000 in
theorem s_A_road {Ω : zO} {ad : Nat → Nat} {p1 : Int} {p2 : Int} {K : Int → zS → Prop} {σ : zS} (hp1 : zR p1) (hp2 : zR p2) (h : q_A_road p1 p2 K σ) : zXi Ω y_A_road (.codeWith y_A_road c_A_road 5 (some .int) [(0, 10, 13, 19), (0, 10, 17, 21), (0, 10, 21, 41)]) rm_A_road zLy ad [.ref (ad 0), .int (zI p1), .int (zI p2), .ref (ad 64)] σ K (fun _ _ => False) := by
  refine z_ofW (lv := [(0, .ref (ad 0)), (1, .int (zI p1)), (2, .int (zI p2)), (3, .ref (ad 64))]) (by decide) rfl (Nat.le_of_ble_eq_true rfl) ?_
  intro Γ Q cx rt htb
  refine v_aload_n cx 3 d_A_road_0 rfl rfl ?_
  refine v_iconst cx d_A_road_1 ?_
  refine v_aload_n cx 0 d_A_road_2 rfl rfl ?_
  refine v_iload_n cx 1 d_A_road_3 rfl rfl ?_
  refine v_iload_n cx 2 d_A_road_4 rfl rfl ?_
  refine v_xcalli (st := [.int (zI 0), .ref (ad 64)]) cx (s_R_road hp1 hp2 h) yk_R_road lk_A_77 zl_0 rfl rfl rfl (Nat.le_of_ble_eq_true rfl) ⟨Nat.le_of_ble_eq_true rfl, Nat.le_of_ble_eq_true rfl⟩ ⟨Nat.le_of_ble_eq_true rfl, Nat.le_of_ble_eq_true rfl⟩ d_A_road_5 (fun r u hr h => ?_) (fun E u hX => ?_)
  · refine v_i2l cx hr d_A_road_8 ?_
    refine v_last cx zl_64 (by decide) (by decide) (by decide) hr d_A_road_9 ?_
    refine v_goto cx 25 d_A_road_10 (by decide) ?_
    refine v_iconst cx d_A_road_25 ?_
    exact rt _ _ _ _ _ _ (Nat.le_of_ble_eq_true rfl) (Nat.le_of_ble_eq_true rfl) d_A_road_26 zR_0 h
  · rcases hX with ⟨rfl, h⟩ | ⟨rfl, h⟩ | ⟨rfl, h⟩
    · refine v_catch cx (tableOf []) ⟨0, 10, 13, 19⟩ (tableOf [(0, 10, 17, 21), (0, 10, 21, 41)]) (by rw [htb]; rfl) (fun z hz => by cases hz) (by decide) (by decide) zcl_A_19 (List.mem_of_getElem? (i := 13) rfl) (fun q => ?_)
      refine v_astore (lv' := [(0, .ref (ad 0)), (1, .int (zI p1)), (2, .int (zI p2)), (3, .ref (ad 64)), (4, .ref q)]) cx d_A_road_13 (by decide) rfl rfl ?_
      refine v_iconst cx d_A_road_15 ?_
      exact rt _ _ _ _ _ _ (Nat.le_of_ble_eq_true rfl) (Nat.le_of_ble_eq_true rfl) d_A_road_16 ⟨by decide, by decide⟩ h
    · refine v_catch cx (tableOf [(0, 10, 13, 19)]) ⟨0, 10, 17, 21⟩ (tableOf [(0, 10, 21, 41)]) (by rw [htb]; rfl) (fun z hz => by
        simp only [tableOf, List.map_cons, List.map_nil, List.mem_cons, List.not_mem_nil, or_false] at hz
        rcases hz with rfl
        · exact ⟨by decide, "java/lang/IndexOutOfBoundsException", zcl_A_19, List.mem_of_getElem? (i := 11) rfl⟩) (by decide) (by decide) zcl_A_21 (List.mem_of_getElem? (i := 14) rfl) (fun q => ?_)
      refine v_astore (lv' := [(0, .ref (ad 0)), (1, .int (zI p1)), (2, .int (zI p2)), (3, .ref (ad 64)), (4, .ref q)]) cx d_A_road_17 (by decide) rfl rfl ?_
      refine v_iconst cx d_A_road_19 ?_
      exact rt _ _ _ _ _ _ (Nat.le_of_ble_eq_true rfl) (Nat.le_of_ble_eq_true rfl) d_A_road_20 ⟨by decide, by decide⟩ h
    · refine v_catch cx (tableOf [(0, 10, 13, 19), (0, 10, 17, 21)]) ⟨0, 10, 21, 41⟩ (tableOf []) (by rw [htb]; rfl) (fun z hz => by
        simp only [tableOf, List.map_cons, List.map_nil, List.mem_cons, List.not_mem_nil, or_false] at hz
        rcases hz with rfl | rfl
        · exact ⟨by decide, "java/lang/IndexOutOfBoundsException", zcl_A_19, List.mem_of_getElem? (i := 4) rfl⟩
        · exact ⟨by decide, "java/util/NoSuchElementException", zcl_A_21, List.mem_of_getElem? (i := 5) rfl⟩) (by decide) (by decide) zcl_A_41 (List.mem_of_getElem? (i := 23) rfl) (fun q => ?_)
      refine v_astore (lv' := [(0, .ref (ad 0)), (1, .int (zI p1)), (2, .int (zI p2)), (3, .ref (ad 64)), (4, .ref q)]) cx d_A_road_21 (by decide) rfl rfl ?_
      refine v_iconst cx d_A_road_23 ?_
      exact rt _ _ _ _ _ _ (Nat.le_of_ble_eq_true rfl) (Nat.le_of_ble_eq_true rfl) d_A_road_24 ⟨by decide, by decide⟩ h
theorem yk_A_at : zYw y_A_at c_A_at 6 (some .int) [(0, 12, 15, 19), (0, 12, 19, 41)] 5 := ⟨ztc7 108 rfl rfl, ztc7 107 (by decide +kernel) rfl, ztc1 0 (by decide +kernel) rfl, by decide +kernel⟩
theorem lk_A_80 : Cond.methodLink "GentleRoadLaw" 80 y_R_at ∈ zT := ztc7 109 (by decide +kernel) rfl
def q_A_at (p1 : Int) (p2 : Int) (p3 : Int) (K : Int → zS → Prop) (σ : zS) : Prop := q_R_at p1 p2 p3 (fun r u => K 0 (zU u 64 0 r)) (fun E u => (E = "java/lang/IndexOutOfBoundsException" ∧ K 1 u) ∨ (E = "java/lang/IllegalStateException" ∧ K 2 u)) σ
abbrev rm_A_at : Room := { frames := 8, cells := 2, slots := 12, locals := 144 }
set_option maxRecDepth 20000 in
set_option maxHeartbeats 4000000 in
theorem s_A_at {Ω : zO} {ad : Nat → Nat} {p1 : Int} {p2 : Int} {p3 : Int} {K : Int → zS → Prop} {σ : zS} (hp1 : zR p1) (hp2 : zR p2) (hp3 : p3 = 0 ∨ p3 = 1) (h : q_A_at p1 p2 p3 K σ) : zXi Ω y_A_at (.codeWith y_A_at c_A_at 6 (some .int) [(0, 12, 15, 19), (0, 12, 19, 41)]) rm_A_at zLy ad [.ref (ad 0), .int (zI p1), .int (zI p2), .int (zI p3), .ref (ad 64)] σ K (fun _ _ => False) := by
  refine z_ofW (lv := [(0, .ref (ad 0)), (1, .int (zI p1)), (2, .int (zI p2)), (3, .int (zI p3)), (4, .ref (ad 64))]) (by decide) rfl (Nat.le_of_ble_eq_true rfl) ?_
  intro Γ Q cx rt htb
  refine v_aload cx 4 d_A_at_0 rfl ?_
  refine v_iconst cx d_A_at_2 ?_
  refine v_aload_n cx 0 d_A_at_3 rfl rfl ?_
  refine v_iload_n cx 1 d_A_at_4 rfl rfl ?_
  refine v_iload_n cx 2 d_A_at_5 rfl rfl ?_
  refine v_iload_n cx 3 d_A_at_6 rfl rfl ?_
  refine v_xcalli (st := [.int (zI 0), .ref (ad 64)]) cx (s_R_at hp1 hp2 hp3 h) yk_R_at lk_A_80 zl_0 rfl rfl rfl (Nat.le_of_ble_eq_true rfl) ⟨Nat.le_of_ble_eq_true rfl, Nat.le_of_ble_eq_true rfl⟩ ⟨Nat.le_of_ble_eq_true rfl, Nat.le_of_ble_eq_true rfl⟩ d_A_at_7 (fun r u hr h => ?_) (fun E u hX => ?_)
  · refine v_i2l cx hr d_A_at_10 ?_
    refine v_last cx zl_64 (by decide) (by decide) (by decide) hr d_A_at_11 ?_
    refine v_goto cx 23 d_A_at_12 (by decide) ?_
    refine v_iconst cx d_A_at_23 ?_
    exact rt _ _ _ _ _ _ (Nat.le_of_ble_eq_true rfl) (Nat.le_of_ble_eq_true rfl) d_A_at_24 zR_0 h
  · rcases hX with ⟨rfl, h⟩ | ⟨rfl, h⟩
    · refine v_catch cx (tableOf []) ⟨0, 12, 15, 19⟩ (tableOf [(0, 12, 19, 41)]) (by rw [htb]; rfl) (fun z hz => by cases hz) (by decide) (by decide) zcl_A_19 (List.mem_of_getElem? (i := 13) rfl) (fun q => ?_)
      refine v_astore (lv' := [(0, .ref (ad 0)), (1, .int (zI p1)), (2, .int (zI p2)), (3, .int (zI p3)), (4, .ref (ad 64)), (5, .ref q)]) cx d_A_at_15 (by decide) rfl rfl ?_
      refine v_iconst cx d_A_at_17 ?_
      exact rt _ _ _ _ _ _ (Nat.le_of_ble_eq_true rfl) (Nat.le_of_ble_eq_true rfl) d_A_at_18 ⟨by decide, by decide⟩ h
    · refine v_catch cx (tableOf [(0, 12, 15, 19)]) ⟨0, 12, 19, 41⟩ (tableOf []) (by rw [htb]; rfl) (fun z hz => by
        simp only [tableOf, List.map_cons, List.map_nil, List.mem_cons, List.not_mem_nil, or_false] at hz
        rcases hz with rfl
        · exact ⟨by decide, "java/lang/IndexOutOfBoundsException", zcl_A_19, List.mem_of_getElem? (i := 4) rfl⟩) (by decide) (by decide) zcl_A_41 (List.mem_of_getElem? (i := 23) rfl) (fun q => ?_)
      refine v_astore (lv' := [(0, .ref (ad 0)), (1, .int (zI p1)), (2, .int (zI p2)), (3, .int (zI p3)), (4, .ref (ad 64)), (5, .ref q)]) cx d_A_at_19 (by decide) rfl rfl ?_
      refine v_iconst cx d_A_at_21 ?_
      exact rt _ _ _ _ _ _ (Nat.le_of_ble_eq_true rfl) (Nat.le_of_ble_eq_true rfl) d_A_at_22 ⟨by decide, by decide⟩ h
theorem yk_A_earth : zYw y_A_earth c_A_earth 5 (some .int) [(0, 10, 13, 19), (0, 10, 17, 13), (0, 10, 21, 41)] 4 := ⟨ztc7 117 rfl rfl, ztc7 116 (by decide +kernel) rfl, ztc1 0 (by decide +kernel) rfl, by decide +kernel⟩
theorem lk_A_84 : Cond.methodLink "GentleRoadLaw" 84 y_R_earth ∈ zT := ztc7 118 (by decide +kernel) rfl
def q_A_earth (p1 : Int) (p2 : Int) (K : Int → zS → Prop) (σ : zS) : Prop := q_R_earth p1 p2 (fun r u => K 0 (zU u 64 0 r)) (fun E u => (E = "java/lang/IndexOutOfBoundsException" ∧ K 1 u) ∨ (E = "java/lang/IllegalArgumentException" ∧ K 2 u) ∨ (E = "java/lang/IllegalStateException" ∧ K 3 u)) σ
abbrev rm_A_earth : Room := { frames := 8, cells := 3, slots := 18, locals := 145 }
set_option maxRecDepth 20000 in
set_option maxHeartbeats 4000000 in
theorem s_A_earth {Ω : zO} {ad : Nat → Nat} {p1 : Int} {p2 : Int} {K : Int → zS → Prop} {σ : zS} (hp1 : zR p1) (hp2 : zR p2) (h : q_A_earth p1 p2 K σ) : zXi Ω y_A_earth (.codeWith y_A_earth c_A_earth 5 (some .int) [(0, 10, 13, 19), (0, 10, 17, 13), (0, 10, 21, 41)]) rm_A_earth zLy ad [.ref (ad 0), .int (zI p1), .int (zI p2), .ref (ad 64)] σ K (fun _ _ => False) := by
  refine z_ofW (lv := [(0, .ref (ad 0)), (1, .int (zI p1)), (2, .int (zI p2)), (3, .ref (ad 64))]) (by decide) rfl (Nat.le_of_ble_eq_true rfl) ?_
  intro Γ Q cx rt htb
  refine v_aload_n cx 3 d_A_earth_0 rfl rfl ?_
  refine v_iconst cx d_A_earth_1 ?_
  refine v_aload_n cx 0 d_A_earth_2 rfl rfl ?_
  refine v_iload_n cx 1 d_A_earth_3 rfl rfl ?_
  refine v_iload_n cx 2 d_A_earth_4 rfl rfl ?_
  refine v_xcalli (st := [.int (zI 0), .ref (ad 64)]) cx (s_R_earth hp1 hp2 h) yk_R_earth lk_A_84 zl_0 rfl rfl rfl (Nat.le_of_ble_eq_true rfl) ⟨Nat.le_of_ble_eq_true rfl, Nat.le_of_ble_eq_true rfl⟩ ⟨Nat.le_of_ble_eq_true rfl, Nat.le_of_ble_eq_true rfl⟩ d_A_earth_5 (fun r u hr h => ?_) (fun E u hX => ?_)
  · refine v_i2l cx hr d_A_earth_8 ?_
    refine v_last cx zl_64 (by decide) (by decide) (by decide) hr d_A_earth_9 ?_
    refine v_goto cx 25 d_A_earth_10 (by decide) ?_
    refine v_iconst cx d_A_earth_25 ?_
    exact rt _ _ _ _ _ _ (Nat.le_of_ble_eq_true rfl) (Nat.le_of_ble_eq_true rfl) d_A_earth_26 zR_0 h
  · rcases hX with ⟨rfl, h⟩ | ⟨rfl, h⟩ | ⟨rfl, h⟩
    · refine v_catch cx (tableOf []) ⟨0, 10, 13, 19⟩ (tableOf [(0, 10, 17, 13), (0, 10, 21, 41)]) (by rw [htb]; rfl) (fun z hz => by cases hz) (by decide) (by decide) zcl_A_19 (List.mem_of_getElem? (i := 13) rfl) (fun q => ?_)
      refine v_astore (lv' := [(0, .ref (ad 0)), (1, .int (zI p1)), (2, .int (zI p2)), (3, .ref (ad 64)), (4, .ref q)]) cx d_A_earth_13 (by decide) rfl rfl ?_
      refine v_iconst cx d_A_earth_15 ?_
      exact rt _ _ _ _ _ _ (Nat.le_of_ble_eq_true rfl) (Nat.le_of_ble_eq_true rfl) d_A_earth_16 ⟨by decide, by decide⟩ h
    · refine v_catch cx (tableOf [(0, 10, 13, 19)]) ⟨0, 10, 17, 13⟩ (tableOf [(0, 10, 21, 41)]) (by rw [htb]; rfl) (fun z hz => by
        simp only [tableOf, List.map_cons, List.map_nil, List.mem_cons, List.not_mem_nil, or_false] at hz
        rcases hz with rfl
        · exact ⟨by decide, "java/lang/IndexOutOfBoundsException", zcl_A_19, List.mem_of_getElem? (i := 1) rfl⟩) (by decide) (by decide) zcl_A_13 (List.mem_of_getElem? (i := 6) rfl) (fun q => ?_)
      refine v_astore (lv' := [(0, .ref (ad 0)), (1, .int (zI p1)), (2, .int (zI p2)), (3, .ref (ad 64)), (4, .ref q)]) cx d_A_earth_17 (by decide) rfl rfl ?_
      refine v_iconst cx d_A_earth_19 ?_
      exact rt _ _ _ _ _ _ (Nat.le_of_ble_eq_true rfl) (Nat.le_of_ble_eq_true rfl) d_A_earth_20 ⟨by decide, by decide⟩ h
    · refine v_catch cx (tableOf [(0, 10, 13, 19), (0, 10, 17, 13)]) ⟨0, 10, 21, 41⟩ (tableOf []) (by rw [htb]; rfl) (fun z hz => by
        simp only [tableOf, List.map_cons, List.map_nil, List.mem_cons, List.not_mem_nil, or_false] at hz
        rcases hz with rfl | rfl
        · exact ⟨by decide, "java/lang/IndexOutOfBoundsException", zcl_A_19, List.mem_of_getElem? (i := 4) rfl⟩
        · exact ⟨by decide, "java/lang/IllegalArgumentException", zcl_A_13, List.mem_of_getElem? (i := 3) rfl⟩) (by decide) (by decide) zcl_A_41 (List.mem_of_getElem? (i := 23) rfl) (fun q => ?_)
      refine v_astore (lv' := [(0, .ref (ad 0)), (1, .int (zI p1)), (2, .int (zI p2)), (3, .ref (ad 64)), (4, .ref q)]) cx d_A_earth_21 (by decide) rfl rfl ?_
      refine v_iconst cx d_A_earth_23 ?_
      exact rt _ _ _ _ _ _ (Nat.le_of_ble_eq_true rfl) (Nat.le_of_ble_eq_true rfl) d_A_earth_24 ⟨by decide, by decide⟩ h
theorem yk_A_water : zYw y_A_water c_A_water 5 (some .int) [(0, 10, 13, 19), (0, 10, 17, 21)] 4 := ⟨ztc7 124 rfl rfl, ztc7 123 (by decide +kernel) rfl, ztc1 0 (by decide +kernel) rfl, by decide +kernel⟩
theorem lk_A_87 : Cond.methodLink "GentleRoadLaw" 87 y_R_water ∈ zT := ztc7 125 (by decide +kernel) rfl
def q_A_water (p1 : Int) (p2 : Int) (K : Int → zS → Prop) (σ : zS) : Prop := q_R_water p1 p2 (fun r u => K 0 (zU u 64 0 r)) (fun E u => (E = "java/lang/IndexOutOfBoundsException" ∧ K 1 u) ∨ (E = "java/util/NoSuchElementException" ∧ K 2 u)) σ
abbrev rm_A_water : Room := { frames := 8, cells := 2, slots := 12, locals := 144 }
set_option maxRecDepth 20000 in
set_option maxHeartbeats 4000000 in
theorem s_A_water {Ω : zO} {ad : Nat → Nat} {p1 : Int} {p2 : Int} {K : Int → zS → Prop} {σ : zS} (hp1 : zR p1) (hp2 : zR p2) (h : q_A_water p1 p2 K σ) : zXi Ω y_A_water (.codeWith y_A_water c_A_water 5 (some .int) [(0, 10, 13, 19), (0, 10, 17, 21)]) rm_A_water zLy ad [.ref (ad 0), .int (zI p1), .int (zI p2), .ref (ad 64)] σ K (fun _ _ => False) := by
  refine z_ofW (lv := [(0, .ref (ad 0)), (1, .int (zI p1)), (2, .int (zI p2)), (3, .ref (ad 64))]) (by decide) rfl (Nat.le_of_ble_eq_true rfl) ?_
  intro Γ Q cx rt htb
  refine v_aload_n cx 3 d_A_water_0 rfl rfl ?_
  refine v_iconst cx d_A_water_1 ?_
  refine v_aload_n cx 0 d_A_water_2 rfl rfl ?_
  refine v_iload_n cx 1 d_A_water_3 rfl rfl ?_
  refine v_iload_n cx 2 d_A_water_4 rfl rfl ?_
  refine v_xcalli (st := [.int (zI 0), .ref (ad 64)]) cx (s_R_water hp1 hp2 h) yk_R_water lk_A_87 zl_0 rfl rfl rfl (Nat.le_of_ble_eq_true rfl) ⟨Nat.le_of_ble_eq_true rfl, Nat.le_of_ble_eq_true rfl⟩ ⟨Nat.le_of_ble_eq_true rfl, Nat.le_of_ble_eq_true rfl⟩ d_A_water_5 (fun r u hr h => ?_) (fun E u hX => ?_)
  · refine v_i2l cx hr d_A_water_8 ?_
    refine v_last cx zl_64 (by decide) (by decide) (by decide) hr d_A_water_9 ?_
    refine v_goto cx 21 d_A_water_10 (by decide) ?_
    refine v_iconst cx d_A_water_21 ?_
    exact rt _ _ _ _ _ _ (Nat.le_of_ble_eq_true rfl) (Nat.le_of_ble_eq_true rfl) d_A_water_22 zR_0 h
  · rcases hX with ⟨rfl, h⟩ | ⟨rfl, h⟩
    · refine v_catch cx (tableOf []) ⟨0, 10, 13, 19⟩ (tableOf [(0, 10, 17, 21)]) (by rw [htb]; rfl) (fun z hz => by cases hz) (by decide) (by decide) zcl_A_19 (List.mem_of_getElem? (i := 13) rfl) (fun q => ?_)
      refine v_astore (lv' := [(0, .ref (ad 0)), (1, .int (zI p1)), (2, .int (zI p2)), (3, .ref (ad 64)), (4, .ref q)]) cx d_A_water_13 (by decide) rfl rfl ?_
      refine v_iconst cx d_A_water_15 ?_
      exact rt _ _ _ _ _ _ (Nat.le_of_ble_eq_true rfl) (Nat.le_of_ble_eq_true rfl) d_A_water_16 ⟨by decide, by decide⟩ h
    · refine v_catch cx (tableOf [(0, 10, 13, 19)]) ⟨0, 10, 17, 21⟩ (tableOf []) (by rw [htb]; rfl) (fun z hz => by
        simp only [tableOf, List.map_cons, List.map_nil, List.mem_cons, List.not_mem_nil, or_false] at hz
        rcases hz with rfl
        · exact ⟨by decide, "java/lang/IndexOutOfBoundsException", zcl_A_19, List.mem_of_getElem? (i := 11) rfl⟩) (by decide) (by decide) zcl_A_21 (List.mem_of_getElem? (i := 14) rfl) (fun q => ?_)
      refine v_astore (lv' := [(0, .ref (ad 0)), (1, .int (zI p1)), (2, .int (zI p2)), (3, .ref (ad 64)), (4, .ref q)]) cx d_A_water_17 (by decide) rfl rfl ?_
      refine v_iconst cx d_A_water_19 ?_
      exact rt _ _ _ _ _ _ (Nat.le_of_ble_eq_true rfl) (Nat.le_of_ble_eq_true rfl) d_A_water_20 ⟨by decide, by decide⟩ h
theorem yk_A_bridges : zYw y_A_bridges c_A_bridges 5 (some .int) [(0, 10, 13, 19), (0, 10, 17, 13), (0, 10, 21, 41)] 4 := ⟨ztc7 152 rfl rfl, ztc7 151 (by decide +kernel) rfl, ztc1 0 (by decide +kernel) rfl, by decide +kernel⟩
theorem lk_A_90 : Cond.methodLink "GentleRoadLaw" 90 y_R_bridges ∈ zT := ztc7 153 (by decide +kernel) rfl
def q_A_bridges (p1 : Int) (p2 : Int) (K : Int → zS → Prop) (σ : zS) : Prop := q_R_bridges p1 p2 (fun r u => K 0 (zU u 64 0 r)) (fun E u => (E = "java/lang/IndexOutOfBoundsException" ∧ K 1 u) ∨ (E = "java/lang/IllegalArgumentException" ∧ K 2 u) ∨ (E = "java/lang/IllegalStateException" ∧ K 3 u)) σ
abbrev rm_A_bridges : Room := { frames := 8, cells := 3, slots := 18, locals := 145 }
set_option maxRecDepth 20000 in
set_option maxHeartbeats 4000000 in
theorem s_A_bridges {Ω : zO} {ad : Nat → Nat} {p1 : Int} {p2 : Int} {K : Int → zS → Prop} {σ : zS} (hp1 : zR p1) (hp2 : zR p2) (h : q_A_bridges p1 p2 K σ) : zXi Ω y_A_bridges (.codeWith y_A_bridges c_A_bridges 5 (some .int) [(0, 10, 13, 19), (0, 10, 17, 13), (0, 10, 21, 41)]) rm_A_bridges zLy ad [.ref (ad 0), .int (zI p1), .int (zI p2), .ref (ad 64)] σ K (fun _ _ => False) := by
  refine z_ofW (lv := [(0, .ref (ad 0)), (1, .int (zI p1)), (2, .int (zI p2)), (3, .ref (ad 64))]) (by decide) rfl (Nat.le_of_ble_eq_true rfl) ?_
  intro Γ Q cx rt htb
  refine v_aload_n cx 3 d_A_bridges_0 rfl rfl ?_
  refine v_iconst cx d_A_bridges_1 ?_
  refine v_aload_n cx 0 d_A_bridges_2 rfl rfl ?_
  refine v_iload_n cx 1 d_A_bridges_3 rfl rfl ?_
  refine v_iload_n cx 2 d_A_bridges_4 rfl rfl ?_
  refine v_xcalli (st := [.int (zI 0), .ref (ad 64)]) cx (s_R_bridges hp1 hp2 h) yk_R_bridges lk_A_90 zl_0 rfl rfl rfl (Nat.le_of_ble_eq_true rfl) ⟨Nat.le_of_ble_eq_true rfl, Nat.le_of_ble_eq_true rfl⟩ ⟨Nat.le_of_ble_eq_true rfl, Nat.le_of_ble_eq_true rfl⟩ d_A_bridges_5 (fun r u hr h => ?_) (fun E u hX => ?_)
  · refine v_i2l cx hr d_A_bridges_8 ?_
    refine v_last cx zl_64 (by decide) (by decide) (by decide) hr d_A_bridges_9 ?_
    refine v_goto cx 25 d_A_bridges_10 (by decide) ?_
    refine v_iconst cx d_A_bridges_25 ?_
    exact rt _ _ _ _ _ _ (Nat.le_of_ble_eq_true rfl) (Nat.le_of_ble_eq_true rfl) d_A_bridges_26 zR_0 h
  · rcases hX with ⟨rfl, h⟩ | ⟨rfl, h⟩ | ⟨rfl, h⟩
    · refine v_catch cx (tableOf []) ⟨0, 10, 13, 19⟩ (tableOf [(0, 10, 17, 13), (0, 10, 21, 41)]) (by rw [htb]; rfl) (fun z hz => by cases hz) (by decide) (by decide) zcl_A_19 (List.mem_of_getElem? (i := 13) rfl) (fun q => ?_)
      refine v_astore (lv' := [(0, .ref (ad 0)), (1, .int (zI p1)), (2, .int (zI p2)), (3, .ref (ad 64)), (4, .ref q)]) cx d_A_bridges_13 (by decide) rfl rfl ?_
      refine v_iconst cx d_A_bridges_15 ?_
      exact rt _ _ _ _ _ _ (Nat.le_of_ble_eq_true rfl) (Nat.le_of_ble_eq_true rfl) d_A_bridges_16 ⟨by decide, by decide⟩ h
    · refine v_catch cx (tableOf [(0, 10, 13, 19)]) ⟨0, 10, 17, 13⟩ (tableOf [(0, 10, 21, 41)]) (by rw [htb]; rfl) (fun z hz => by
        simp only [tableOf, List.map_cons, List.map_nil, List.mem_cons, List.not_mem_nil, or_false] at hz
        rcases hz with rfl
        · exact ⟨by decide, "java/lang/IndexOutOfBoundsException", zcl_A_19, List.mem_of_getElem? (i := 1) rfl⟩) (by decide) (by decide) zcl_A_13 (List.mem_of_getElem? (i := 6) rfl) (fun q => ?_)
      refine v_astore (lv' := [(0, .ref (ad 0)), (1, .int (zI p1)), (2, .int (zI p2)), (3, .ref (ad 64)), (4, .ref q)]) cx d_A_bridges_17 (by decide) rfl rfl ?_
      refine v_iconst cx d_A_bridges_19 ?_
      exact rt _ _ _ _ _ _ (Nat.le_of_ble_eq_true rfl) (Nat.le_of_ble_eq_true rfl) d_A_bridges_20 ⟨by decide, by decide⟩ h
    · refine v_catch cx (tableOf [(0, 10, 13, 19), (0, 10, 17, 13)]) ⟨0, 10, 21, 41⟩ (tableOf []) (by rw [htb]; rfl) (fun z hz => by
        simp only [tableOf, List.map_cons, List.map_nil, List.mem_cons, List.not_mem_nil, or_false] at hz
        rcases hz with rfl | rfl
        · exact ⟨by decide, "java/lang/IndexOutOfBoundsException", zcl_A_19, List.mem_of_getElem? (i := 4) rfl⟩
        · exact ⟨by decide, "java/lang/IllegalArgumentException", zcl_A_13, List.mem_of_getElem? (i := 3) rfl⟩) (by decide) (by decide) zcl_A_41 (List.mem_of_getElem? (i := 23) rfl) (fun q => ?_)
      refine v_astore (lv' := [(0, .ref (ad 0)), (1, .int (zI p1)), (2, .int (zI p2)), (3, .ref (ad 64)), (4, .ref q)]) cx d_A_bridges_21 (by decide) rfl rfl ?_
      refine v_iconst cx d_A_bridges_23 ?_
      exact rt _ _ _ _ _ _ (Nat.le_of_ble_eq_true rfl) (Nat.le_of_ble_eq_true rfl) d_A_bridges_24 ⟨by decide, by decide⟩ h
theorem yk_A_joins : zYw y_A_joins c_A_joins 6 (some .int) [(0, 12, 15, 19), (0, 12, 19, 21), (0, 12, 23, 41)] 5 := ⟨ztc7 166 rfl rfl, ztc7 165 (by decide +kernel) rfl, ztc1 0 (by decide +kernel) rfl, by decide +kernel⟩
theorem lk_A_93 : Cond.methodLink "GentleRoadLaw" 93 y_R_joins ∈ zT := ztc7 167 (by decide +kernel) rfl
def q_A_joins (p1 : Int) (p2 : Int) (p3 : Int) (K : Int → zS → Prop) (σ : zS) : Prop := q_R_joins p1 p2 p3 (fun r u => K 0 (zU u 64 0 r)) (fun E u => (E = "java/lang/IndexOutOfBoundsException" ∧ K 1 u) ∨ (E = "java/util/NoSuchElementException" ∧ K 2 u) ∨ (E = "java/lang/IllegalStateException" ∧ K 3 u)) σ
abbrev rm_A_joins : Room := { frames := 8, cells := 4, slots := 24, locals := 173 }
set_option maxRecDepth 20000 in
set_option maxHeartbeats 4000000 in
theorem s_A_joins {Ω : zO} {ad : Nat → Nat} {p1 : Int} {p2 : Int} {p3 : Int} {K : Int → zS → Prop} {σ : zS} (hp1 : zR p1) (hp2 : zR p2) (hp3 : zR p3) (h : q_A_joins p1 p2 p3 K σ) : zXi Ω y_A_joins (.codeWith y_A_joins c_A_joins 6 (some .int) [(0, 12, 15, 19), (0, 12, 19, 21), (0, 12, 23, 41)]) rm_A_joins zLy ad [.ref (ad 0), .int (zI p1), .int (zI p2), .int (zI p3), .ref (ad 64)] σ K (fun _ _ => False) := by
  refine z_ofW (lv := [(0, .ref (ad 0)), (1, .int (zI p1)), (2, .int (zI p2)), (3, .int (zI p3)), (4, .ref (ad 64))]) (by decide) rfl (Nat.le_of_ble_eq_true rfl) ?_
  intro Γ Q cx rt htb
  refine v_aload cx 4 d_A_joins_0 rfl ?_
  refine v_iconst cx d_A_joins_2 ?_
  refine v_aload_n cx 0 d_A_joins_3 rfl rfl ?_
  refine v_iload_n cx 1 d_A_joins_4 rfl rfl ?_
  refine v_iload_n cx 2 d_A_joins_5 rfl rfl ?_
  refine v_iload_n cx 3 d_A_joins_6 rfl rfl ?_
  refine v_xcalli (st := [.int (zI 0), .ref (ad 64)]) cx (s_R_joins hp1 hp2 hp3 h) yk_R_joins lk_A_93 zl_0 rfl rfl rfl (Nat.le_of_ble_eq_true rfl) ⟨Nat.le_of_ble_eq_true rfl, Nat.le_of_ble_eq_true rfl⟩ ⟨Nat.le_of_ble_eq_true rfl, Nat.le_of_ble_eq_true rfl⟩ d_A_joins_7 (fun r u hr h => ?_) (fun E u hX => ?_)
  · refine v_i2l cx hr d_A_joins_10 ?_
    refine v_last cx zl_64 (by decide) (by decide) (by decide) hr d_A_joins_11 ?_
    refine v_goto cx 27 d_A_joins_12 (by decide) ?_
    refine v_iconst cx d_A_joins_27 ?_
    exact rt _ _ _ _ _ _ (Nat.le_of_ble_eq_true rfl) (Nat.le_of_ble_eq_true rfl) d_A_joins_28 zR_0 h
  · rcases hX with ⟨rfl, h⟩ | ⟨rfl, h⟩ | ⟨rfl, h⟩
    · refine v_catch cx (tableOf []) ⟨0, 12, 15, 19⟩ (tableOf [(0, 12, 19, 21), (0, 12, 23, 41)]) (by rw [htb]; rfl) (fun z hz => by cases hz) (by decide) (by decide) zcl_A_19 (List.mem_of_getElem? (i := 13) rfl) (fun q => ?_)
      refine v_astore (lv' := [(0, .ref (ad 0)), (1, .int (zI p1)), (2, .int (zI p2)), (3, .int (zI p3)), (4, .ref (ad 64)), (5, .ref q)]) cx d_A_joins_15 (by decide) rfl rfl ?_
      refine v_iconst cx d_A_joins_17 ?_
      exact rt _ _ _ _ _ _ (Nat.le_of_ble_eq_true rfl) (Nat.le_of_ble_eq_true rfl) d_A_joins_18 ⟨by decide, by decide⟩ h
    · refine v_catch cx (tableOf [(0, 12, 15, 19)]) ⟨0, 12, 19, 21⟩ (tableOf [(0, 12, 23, 41)]) (by rw [htb]; rfl) (fun z hz => by
        simp only [tableOf, List.map_cons, List.map_nil, List.mem_cons, List.not_mem_nil, or_false] at hz
        rcases hz with rfl
        · exact ⟨by decide, "java/lang/IndexOutOfBoundsException", zcl_A_19, List.mem_of_getElem? (i := 11) rfl⟩) (by decide) (by decide) zcl_A_21 (List.mem_of_getElem? (i := 14) rfl) (fun q => ?_)
      refine v_astore (lv' := [(0, .ref (ad 0)), (1, .int (zI p1)), (2, .int (zI p2)), (3, .int (zI p3)), (4, .ref (ad 64)), (5, .ref q)]) cx d_A_joins_19 (by decide) rfl rfl ?_
      refine v_iconst cx d_A_joins_21 ?_
      exact rt _ _ _ _ _ _ (Nat.le_of_ble_eq_true rfl) (Nat.le_of_ble_eq_true rfl) d_A_joins_22 ⟨by decide, by decide⟩ h
    · refine v_catch cx (tableOf [(0, 12, 15, 19), (0, 12, 19, 21)]) ⟨0, 12, 23, 41⟩ (tableOf []) (by rw [htb]; rfl) (fun z hz => by
        simp only [tableOf, List.map_cons, List.map_nil, List.mem_cons, List.not_mem_nil, or_false] at hz
        rcases hz with rfl | rfl
        · exact ⟨by decide, "java/lang/IndexOutOfBoundsException", zcl_A_19, List.mem_of_getElem? (i := 4) rfl⟩
        · exact ⟨by decide, "java/util/NoSuchElementException", zcl_A_21, List.mem_of_getElem? (i := 5) rfl⟩) (by decide) (by decide) zcl_A_41 (List.mem_of_getElem? (i := 23) rfl) (fun q => ?_)
      refine v_astore (lv' := [(0, .ref (ad 0)), (1, .int (zI p1)), (2, .int (zI p2)), (3, .int (zI p3)), (4, .ref (ad 64)), (5, .ref q)]) cx d_A_joins_23 (by decide) rfl rfl ?_
      refine v_iconst cx d_A_joins_25 ?_
      exact rt _ _ _ _ _ _ (Nat.le_of_ble_eq_true rfl) (Nat.le_of_ble_eq_true rfl) d_A_joins_26 ⟨by decide, by decide⟩ h
theorem yk_A_spare : zYw y_A_spare c_A_spare 6 (some .int) [(0, 12, 15, 19), (0, 12, 19, 21), (0, 12, 23, 13)] 5 := ⟨ztc7 180 rfl rfl, ztc7 179 (by decide +kernel) rfl, ztc1 0 (by decide +kernel) rfl, by decide +kernel⟩
theorem lk_A_96 : Cond.methodLink "GentleRoadLaw" 96 y_R_spare ∈ zT := ztc7 181 (by decide +kernel) rfl
def q_A_spare (p1 : Int) (p2 : Int) (p3 : Int) (K : Int → zS → Prop) (σ : zS) : Prop := q_R_spare p1 p2 p3 (fun r u => K 0 (zU u 64 0 r)) (fun E u => (E = "java/lang/IndexOutOfBoundsException" ∧ K 1 u) ∨ (E = "java/util/NoSuchElementException" ∧ K 2 u) ∨ (E = "java/lang/IllegalArgumentException" ∧ K 3 u)) σ
abbrev rm_A_spare : Room := { frames := 9, cells := 4, slots := 24, locals := 177 }
set_option maxRecDepth 20000 in
set_option maxHeartbeats 4000000 in
theorem s_A_spare {Ω : zO} {ad : Nat → Nat} {p1 : Int} {p2 : Int} {p3 : Int} {K : Int → zS → Prop} {σ : zS} (hp1 : zR p1) (hp2 : zR p2) (hp3 : zR p3) (h : q_A_spare p1 p2 p3 K σ) : zXi Ω y_A_spare (.codeWith y_A_spare c_A_spare 6 (some .int) [(0, 12, 15, 19), (0, 12, 19, 21), (0, 12, 23, 13)]) rm_A_spare zLy ad [.ref (ad 0), .int (zI p1), .int (zI p2), .int (zI p3), .ref (ad 64)] σ K (fun _ _ => False) := by
  refine z_ofW (lv := [(0, .ref (ad 0)), (1, .int (zI p1)), (2, .int (zI p2)), (3, .int (zI p3)), (4, .ref (ad 64))]) (by decide) rfl (Nat.le_of_ble_eq_true rfl) ?_
  intro Γ Q cx rt htb
  refine v_aload cx 4 d_A_spare_0 rfl ?_
  refine v_iconst cx d_A_spare_2 ?_
  refine v_aload_n cx 0 d_A_spare_3 rfl rfl ?_
  refine v_iload_n cx 1 d_A_spare_4 rfl rfl ?_
  refine v_iload_n cx 2 d_A_spare_5 rfl rfl ?_
  refine v_iload_n cx 3 d_A_spare_6 rfl rfl ?_
  refine v_xcalli (st := [.int (zI 0), .ref (ad 64)]) cx (s_R_spare hp1 hp2 hp3 h) yk_R_spare lk_A_96 zl_0 rfl rfl rfl (Nat.le_of_ble_eq_true rfl) ⟨Nat.le_of_ble_eq_true rfl, Nat.le_of_ble_eq_true rfl⟩ ⟨Nat.le_of_ble_eq_true rfl, Nat.le_of_ble_eq_true rfl⟩ d_A_spare_7 (fun r u hr h => ?_) (fun E u hX => ?_)
  · refine v_i2l cx hr d_A_spare_10 ?_
    refine v_last cx zl_64 (by decide) (by decide) (by decide) hr d_A_spare_11 ?_
    refine v_goto cx 27 d_A_spare_12 (by decide) ?_
    refine v_iconst cx d_A_spare_27 ?_
    exact rt _ _ _ _ _ _ (Nat.le_of_ble_eq_true rfl) (Nat.le_of_ble_eq_true rfl) d_A_spare_28 zR_0 h
  · rcases hX with ⟨rfl, h⟩ | ⟨rfl, h⟩ | ⟨rfl, h⟩
    · refine v_catch cx (tableOf []) ⟨0, 12, 15, 19⟩ (tableOf [(0, 12, 19, 21), (0, 12, 23, 13)]) (by rw [htb]; rfl) (fun z hz => by cases hz) (by decide) (by decide) zcl_A_19 (List.mem_of_getElem? (i := 13) rfl) (fun q => ?_)
      refine v_astore (lv' := [(0, .ref (ad 0)), (1, .int (zI p1)), (2, .int (zI p2)), (3, .int (zI p3)), (4, .ref (ad 64)), (5, .ref q)]) cx d_A_spare_15 (by decide) rfl rfl ?_
      refine v_iconst cx d_A_spare_17 ?_
      exact rt _ _ _ _ _ _ (Nat.le_of_ble_eq_true rfl) (Nat.le_of_ble_eq_true rfl) d_A_spare_18 ⟨by decide, by decide⟩ h
    · refine v_catch cx (tableOf [(0, 12, 15, 19)]) ⟨0, 12, 19, 21⟩ (tableOf [(0, 12, 23, 13)]) (by rw [htb]; rfl) (fun z hz => by
        simp only [tableOf, List.map_cons, List.map_nil, List.mem_cons, List.not_mem_nil, or_false] at hz
        rcases hz with rfl
        · exact ⟨by decide, "java/lang/IndexOutOfBoundsException", zcl_A_19, List.mem_of_getElem? (i := 11) rfl⟩) (by decide) (by decide) zcl_A_21 (List.mem_of_getElem? (i := 14) rfl) (fun q => ?_)
      refine v_astore (lv' := [(0, .ref (ad 0)), (1, .int (zI p1)), (2, .int (zI p2)), (3, .int (zI p3)), (4, .ref (ad 64)), (5, .ref q)]) cx d_A_spare_19 (by decide) rfl rfl ?_
      refine v_iconst cx d_A_spare_21 ?_
      exact rt _ _ _ _ _ _ (Nat.le_of_ble_eq_true rfl) (Nat.le_of_ble_eq_true rfl) d_A_spare_22 ⟨by decide, by decide⟩ h
    · refine v_catch cx (tableOf [(0, 12, 15, 19), (0, 12, 19, 21)]) ⟨0, 12, 23, 13⟩ (tableOf []) (by rw [htb]; rfl) (fun z hz => by
        simp only [tableOf, List.map_cons, List.map_nil, List.mem_cons, List.not_mem_nil, or_false] at hz
        rcases hz with rfl | rfl
        · exact ⟨by decide, "java/lang/IndexOutOfBoundsException", zcl_A_19, List.mem_of_getElem? (i := 1) rfl⟩
        · exact ⟨by decide, "java/util/NoSuchElementException", zcl_A_21, List.mem_of_getElem? (i := 2) rfl⟩) (by decide) (by decide) zcl_A_13 (List.mem_of_getElem? (i := 6) rfl) (fun q => ?_)
      refine v_astore (lv' := [(0, .ref (ad 0)), (1, .int (zI p1)), (2, .int (zI p2)), (3, .int (zI p3)), (4, .ref (ad 64)), (5, .ref q)]) cx d_A_spare_23 (by decide) rfl rfl ?_
      refine v_iconst cx d_A_spare_25 ?_
      exact rt _ _ _ _ _ _ (Nat.le_of_ble_eq_true rfl) (Nat.le_of_ble_eq_true rfl) d_A_spare_26 ⟨by decide, by decide⟩ h
theorem yk_A_stages : zYw y_A_stages c_A_stages 5 (some .int) [(0, 10, 13, 19), (0, 10, 17, 13), (0, 10, 21, 41)] 4 := ⟨ztc7 210 rfl rfl, ztc7 209 (by decide +kernel) rfl, ztc1 0 (by decide +kernel) rfl, by decide +kernel⟩
theorem lk_A_99 : Cond.methodLink "GentleRoadLaw" 99 y_R_stages ∈ zT := ztc7 211 (by decide +kernel) rfl
def q_A_stages (p1 : Int) (p2 : Int) (K : Int → zS → Prop) (σ : zS) : Prop := q_R_stages p1 p2 (fun r u => K 0 (zU u 64 0 r)) (fun E u => (E = "java/lang/IndexOutOfBoundsException" ∧ K 1 u) ∨ (E = "java/lang/IllegalArgumentException" ∧ K 2 u) ∨ (E = "java/lang/IllegalStateException" ∧ K 3 u)) σ
abbrev rm_A_stages : Room := { frames := 8, cells := 3, slots := 18, locals := 145 }
set_option maxRecDepth 20000 in
set_option maxHeartbeats 4000000 in
theorem s_A_stages {Ω : zO} {ad : Nat → Nat} {p1 : Int} {p2 : Int} {K : Int → zS → Prop} {σ : zS} (hp1 : zR p1) (hp2 : zR p2) (h : q_A_stages p1 p2 K σ) : zXi Ω y_A_stages (.codeWith y_A_stages c_A_stages 5 (some .int) [(0, 10, 13, 19), (0, 10, 17, 13), (0, 10, 21, 41)]) rm_A_stages zLy ad [.ref (ad 0), .int (zI p1), .int (zI p2), .ref (ad 64)] σ K (fun _ _ => False) := by
  refine z_ofW (lv := [(0, .ref (ad 0)), (1, .int (zI p1)), (2, .int (zI p2)), (3, .ref (ad 64))]) (by decide) rfl (Nat.le_of_ble_eq_true rfl) ?_
  intro Γ Q cx rt htb
  refine v_aload_n cx 3 d_A_stages_0 rfl rfl ?_
  refine v_iconst cx d_A_stages_1 ?_
  refine v_aload_n cx 0 d_A_stages_2 rfl rfl ?_
  refine v_iload_n cx 1 d_A_stages_3 rfl rfl ?_
  refine v_iload_n cx 2 d_A_stages_4 rfl rfl ?_
  refine v_xcalli (st := [.int (zI 0), .ref (ad 64)]) cx (s_R_stages hp1 hp2 h) yk_R_stages lk_A_99 zl_0 rfl rfl rfl (Nat.le_of_ble_eq_true rfl) ⟨Nat.le_of_ble_eq_true rfl, Nat.le_of_ble_eq_true rfl⟩ ⟨Nat.le_of_ble_eq_true rfl, Nat.le_of_ble_eq_true rfl⟩ d_A_stages_5 (fun r u hr h => ?_) (fun E u hX => ?_)
  · refine v_i2l cx hr d_A_stages_8 ?_
    refine v_last cx zl_64 (by decide) (by decide) (by decide) hr d_A_stages_9 ?_
    refine v_goto cx 25 d_A_stages_10 (by decide) ?_
    refine v_iconst cx d_A_stages_25 ?_
    exact rt _ _ _ _ _ _ (Nat.le_of_ble_eq_true rfl) (Nat.le_of_ble_eq_true rfl) d_A_stages_26 zR_0 h
  · rcases hX with ⟨rfl, h⟩ | ⟨rfl, h⟩ | ⟨rfl, h⟩
    · refine v_catch cx (tableOf []) ⟨0, 10, 13, 19⟩ (tableOf [(0, 10, 17, 13), (0, 10, 21, 41)]) (by rw [htb]; rfl) (fun z hz => by cases hz) (by decide) (by decide) zcl_A_19 (List.mem_of_getElem? (i := 13) rfl) (fun q => ?_)
      refine v_astore (lv' := [(0, .ref (ad 0)), (1, .int (zI p1)), (2, .int (zI p2)), (3, .ref (ad 64)), (4, .ref q)]) cx d_A_stages_13 (by decide) rfl rfl ?_
      refine v_iconst cx d_A_stages_15 ?_
      exact rt _ _ _ _ _ _ (Nat.le_of_ble_eq_true rfl) (Nat.le_of_ble_eq_true rfl) d_A_stages_16 ⟨by decide, by decide⟩ h
    · refine v_catch cx (tableOf [(0, 10, 13, 19)]) ⟨0, 10, 17, 13⟩ (tableOf [(0, 10, 21, 41)]) (by rw [htb]; rfl) (fun z hz => by
        simp only [tableOf, List.map_cons, List.map_nil, List.mem_cons, List.not_mem_nil, or_false] at hz
        rcases hz with rfl
        · exact ⟨by decide, "java/lang/IndexOutOfBoundsException", zcl_A_19, List.mem_of_getElem? (i := 1) rfl⟩) (by decide) (by decide) zcl_A_13 (List.mem_of_getElem? (i := 6) rfl) (fun q => ?_)
      refine v_astore (lv' := [(0, .ref (ad 0)), (1, .int (zI p1)), (2, .int (zI p2)), (3, .ref (ad 64)), (4, .ref q)]) cx d_A_stages_17 (by decide) rfl rfl ?_
      refine v_iconst cx d_A_stages_19 ?_
      exact rt _ _ _ _ _ _ (Nat.le_of_ble_eq_true rfl) (Nat.le_of_ble_eq_true rfl) d_A_stages_20 ⟨by decide, by decide⟩ h
    · refine v_catch cx (tableOf [(0, 10, 13, 19), (0, 10, 17, 13)]) ⟨0, 10, 21, 41⟩ (tableOf []) (by rw [htb]; rfl) (fun z hz => by
        simp only [tableOf, List.map_cons, List.map_nil, List.mem_cons, List.not_mem_nil, or_false] at hz
        rcases hz with rfl | rfl
        · exact ⟨by decide, "java/lang/IndexOutOfBoundsException", zcl_A_19, List.mem_of_getElem? (i := 4) rfl⟩
        · exact ⟨by decide, "java/lang/IllegalArgumentException", zcl_A_13, List.mem_of_getElem? (i := 3) rfl⟩) (by decide) (by decide) zcl_A_41 (List.mem_of_getElem? (i := 23) rfl) (fun q => ?_)
      refine v_astore (lv' := [(0, .ref (ad 0)), (1, .int (zI p1)), (2, .int (zI p2)), (3, .ref (ad 64)), (4, .ref q)]) cx d_A_stages_21 (by decide) rfl rfl ?_
      refine v_iconst cx d_A_stages_23 ?_
      exact rt _ _ _ _ _ _ (Nat.le_of_ble_eq_true rfl) (Nat.le_of_ble_eq_true rfl) d_A_stages_24 ⟨by decide, by decide⟩ h
theorem yk_A_common : zYw y_A_common c_A_common 5 (some .int) [(0, 10, 13, 19), (0, 10, 17, 13), (0, 10, 21, 41)] 4 := ⟨ztc7 225 rfl rfl, ztc7 224 (by decide +kernel) rfl, ztc1 0 (by decide +kernel) rfl, by decide +kernel⟩
theorem lk_A_102 : Cond.methodLink "GentleRoadLaw" 102 y_R_common ∈ zT := ztc7 226 (by decide +kernel) rfl
def q_A_common (p1 : Int) (p2 : Int) (K : Int → zS → Prop) (σ : zS) : Prop := q_R_common p1 p2 (fun r u => K 0 (zU u 64 0 r)) (fun E u => (E = "java/lang/IndexOutOfBoundsException" ∧ K 1 u) ∨ (E = "java/lang/IllegalArgumentException" ∧ K 2 u) ∨ (E = "java/lang/IllegalStateException" ∧ K 3 u)) σ
abbrev rm_A_common : Room := { frames := 8, cells := 5, slots := 30, locals := 144 }
set_option maxRecDepth 20000 in
set_option maxHeartbeats 4000000 in
theorem s_A_common {Ω : zO} {ad : Nat → Nat} {p1 : Int} {p2 : Int} {K : Int → zS → Prop} {σ : zS} (hp1 : zR p1) (hp2 : zR p2) (h : q_A_common p1 p2 K σ) : zXi Ω y_A_common (.codeWith y_A_common c_A_common 5 (some .int) [(0, 10, 13, 19), (0, 10, 17, 13), (0, 10, 21, 41)]) rm_A_common zLy ad [.ref (ad 0), .int (zI p1), .int (zI p2), .ref (ad 64)] σ K (fun _ _ => False) := by
  refine z_ofW (lv := [(0, .ref (ad 0)), (1, .int (zI p1)), (2, .int (zI p2)), (3, .ref (ad 64))]) (by decide) rfl (Nat.le_of_ble_eq_true rfl) ?_
  intro Γ Q cx rt htb
  refine v_aload_n cx 3 d_A_common_0 rfl rfl ?_
  refine v_iconst cx d_A_common_1 ?_
  refine v_aload_n cx 0 d_A_common_2 rfl rfl ?_
  refine v_iload_n cx 1 d_A_common_3 rfl rfl ?_
  refine v_iload_n cx 2 d_A_common_4 rfl rfl ?_
  refine v_xcalli (st := [.int (zI 0), .ref (ad 64)]) cx (s_R_common hp1 hp2 h) yk_R_common lk_A_102 zl_0 rfl rfl rfl (Nat.le_of_ble_eq_true rfl) ⟨Nat.le_of_ble_eq_true rfl, Nat.le_of_ble_eq_true rfl⟩ ⟨Nat.le_of_ble_eq_true rfl, Nat.le_of_ble_eq_true rfl⟩ d_A_common_5 (fun r u hr h => ?_) (fun E u hX => ?_)
  · refine v_i2l cx hr d_A_common_8 ?_
    refine v_last cx zl_64 (by decide) (by decide) (by decide) hr d_A_common_9 ?_
    refine v_goto cx 25 d_A_common_10 (by decide) ?_
    refine v_iconst cx d_A_common_25 ?_
    exact rt _ _ _ _ _ _ (Nat.le_of_ble_eq_true rfl) (Nat.le_of_ble_eq_true rfl) d_A_common_26 zR_0 h
  · rcases hX with ⟨rfl, h⟩ | ⟨rfl, h⟩ | ⟨rfl, h⟩
    · refine v_catch cx (tableOf []) ⟨0, 10, 13, 19⟩ (tableOf [(0, 10, 17, 13), (0, 10, 21, 41)]) (by rw [htb]; rfl) (fun z hz => by cases hz) (by decide) (by decide) zcl_A_19 (List.mem_of_getElem? (i := 13) rfl) (fun q => ?_)
      refine v_astore (lv' := [(0, .ref (ad 0)), (1, .int (zI p1)), (2, .int (zI p2)), (3, .ref (ad 64)), (4, .ref q)]) cx d_A_common_13 (by decide) rfl rfl ?_
      refine v_iconst cx d_A_common_15 ?_
      exact rt _ _ _ _ _ _ (Nat.le_of_ble_eq_true rfl) (Nat.le_of_ble_eq_true rfl) d_A_common_16 ⟨by decide, by decide⟩ h
    · refine v_catch cx (tableOf [(0, 10, 13, 19)]) ⟨0, 10, 17, 13⟩ (tableOf [(0, 10, 21, 41)]) (by rw [htb]; rfl) (fun z hz => by
        simp only [tableOf, List.map_cons, List.map_nil, List.mem_cons, List.not_mem_nil, or_false] at hz
        rcases hz with rfl
        · exact ⟨by decide, "java/lang/IndexOutOfBoundsException", zcl_A_19, List.mem_of_getElem? (i := 1) rfl⟩) (by decide) (by decide) zcl_A_13 (List.mem_of_getElem? (i := 6) rfl) (fun q => ?_)
      refine v_astore (lv' := [(0, .ref (ad 0)), (1, .int (zI p1)), (2, .int (zI p2)), (3, .ref (ad 64)), (4, .ref q)]) cx d_A_common_17 (by decide) rfl rfl ?_
      refine v_iconst cx d_A_common_19 ?_
      exact rt _ _ _ _ _ _ (Nat.le_of_ble_eq_true rfl) (Nat.le_of_ble_eq_true rfl) d_A_common_20 ⟨by decide, by decide⟩ h
    · refine v_catch cx (tableOf [(0, 10, 13, 19), (0, 10, 17, 13)]) ⟨0, 10, 21, 41⟩ (tableOf []) (by rw [htb]; rfl) (fun z hz => by
        simp only [tableOf, List.map_cons, List.map_nil, List.mem_cons, List.not_mem_nil, or_false] at hz
        rcases hz with rfl | rfl
        · exact ⟨by decide, "java/lang/IndexOutOfBoundsException", zcl_A_19, List.mem_of_getElem? (i := 4) rfl⟩
        · exact ⟨by decide, "java/lang/IllegalArgumentException", zcl_A_13, List.mem_of_getElem? (i := 3) rfl⟩) (by decide) (by decide) zcl_A_41 (List.mem_of_getElem? (i := 23) rfl) (fun q => ?_)
      refine v_astore (lv' := [(0, .ref (ad 0)), (1, .int (zI p1)), (2, .int (zI p2)), (3, .ref (ad 64)), (4, .ref q)]) cx d_A_common_21 (by decide) rfl rfl ?_
      refine v_iconst cx d_A_common_23 ?_
      exact rt _ _ _ _ _ _ (Nat.le_of_ble_eq_true rfl) (Nat.le_of_ble_eq_true rfl) d_A_common_24 ⟨by decide, by decide⟩ h
