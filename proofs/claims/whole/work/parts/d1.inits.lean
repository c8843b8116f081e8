/-! ===== the constructors ===== -/
theorem k_oi : Cond.instanceMethod Lib.objectInit ∈ zT := ztc1 39 (by decide +kernel) rfl
theorem k_oc : Cond.code Lib.objectInit ⟨#[0xb1]⟩ 1 none ∈ zT := ztc1 40 rfl rfl
theorem k_aci : Cond.arrayClass .int ∈ zT := ztc1 54 (by decide +kernel) rfl
theorem k_acz : Cond.arrayClass .boolean ∈ zT := ztc1 101 (by decide +kernel) rfl
theorem k_acl : Cond.arrayClass .long ∈ zT := ztc10 87 (by decide +kernel) rfl
def kL_0 : List zL := []
theorem zHz_up {m m' : Nat} {σ : zS} (h : zHz m σ) (hm : m ≤ m') : zHz m' σ := fun o j ho => h o j (Nat.le_trans hm ho)
def kL_1 : List zL := kL_0 ++ [zOb 10 [some none, some none, some none, some none, some none, some none, some none, some none, some none, some none, none, none]]
theorem k_ol_R : Cond.methodLink "GentleRoad" 3 Lib.objectInit ∈ zT := ztc1 38 (by decide +kernel) rfl
theorem k_cl_R_9 : Cond.classLink "GentleRoad" 9 RX7 ∈ zT := ztc1 41 (by decide +kernel) rfl
theorem k_in_7 : Cond.instantiable RX7 2 ∈ zT := ztc1 42 (by decide +kernel) rfl
theorem k_ii_7 : Cond.initialized RX7 ∈ zT := ztc1 2 (by decide +kernel) rfl
def kL_2 : List zL := kL_1 ++ [zOb 7 [some none, none]]
theorem k_ol_T : Cond.methodLink "GentleRoad$Tape" 1 Lib.objectInit ∈ zT := ztc1 46 (by decide +kernel) rfl
def kL_3 : List zL := kL_2 ++ [zAr 1 400]
def kL_4 : List zL := kL_3.set 1 (zOb 7 [some (some 2), none])
def kS_T_init (σ : zS) : zS := zU (σ) 1 1 0
abbrev rm_T_init : Room := { frames := 1, cells := 1, slots := 400, locals := 60 }
theorem kz_T_init {σ : zS} {m : Nat} (hm : 3 ≤ m) (hz : zHz m σ) : zHz m (kS_T_init σ) := (zHz_U hz (by omega))
set_option maxRecDepth 20000 in
set_option maxHeartbeats 4000000 in
theorem s_T_init {Ω : zO} {q0 q1 : Nat} {σ : zS} (hz : zHz 2 σ) : zMk Ω y_T_init (.code y_T_init c_T_init 1 none) rm_T_init kL_2 kL_4 [q0, q1] (fun v => [q0, q1, v 0]) [.ref q1] σ (fun σ' => σ' = kS_T_init σ) := by
  refine z_ofk (lv := [(0, .ref q1)]) (by decide) rfl rfl (Nat.le_of_ble_eq_true rfl) ?_
  intro Γ Q cx hin rt
  refine v_aload_n cx 0 d_T_init_0 rfl rfl ?_
  refine k_obj cx k_ol_T k_oi k_oc (Nat.le_of_ble_eq_true rfl) (Nat.le_of_ble_eq_true rfl) d_T_init_1 ?_
  refine v_aload_n cx 0 d_T_init_4 rfl rfl ?_
  refine v_sipush cx (by decide) d_T_init_5 ?_
  refine k_newi (qs := [q0, q1]) (Ls := kL_2) (Ls' := kL_3) (N := 400) cx rfl rfl (by decide +kernel) hz k_aci (Nat.le_of_ble_eq_true rfl) (Nat.le_of_ble_eq_true rfl) (Nat.le_of_ble_eq_true rfl) d_T_init_8 rfl (fun r2 => ?_)
  replace hz := zHz_s hz
  refine k_putr (ad := zAd [q0, q1, r2]) (Ls := kL_3) (Ls' := kL_4) (r := 2) cx hin 1 0 tyX7 tyX7_ok nmX7 rfl (by decide) rfl (by decide) inX7 fl_T_9 rfl rfl (tyX7_ok 0 (by decide)) rfl rfl d_T_init_10 rfl ?_
  refine v_aload_n cx 0 d_T_init_13 rfl rfl ?_
  refine v_iconst cx d_T_init_14 ?_
  refine v_puti (o := 1) (a := 0) (ad := zAd [q0, q1, r2]) (Ls := kL_4) cx 1 tyX7 tyX7_ok nmX7 rfl rfl rfl (by decide) inX7 fl_T_13 rfl (tyX7_ok 1 (by decide)) rfl rfl ⟨by decide, by decide⟩ d_T_init_15 ?_
  replace hz := zHz_U (u := 1) (k := 1) (v := 0) hz (by decide)
  exact rt _ _ _ _ _ (zAd [r2]) (Nat.le_of_ble_eq_true rfl) (Nat.le_of_ble_eq_true rfl) d_T_init_18 rfl
theorem k_il_R_11 : Cond.methodLink "GentleRoad" 11 y_T_init ∈ zT := ztc1 43 (by decide +kernel) rfl
theorem k_yk_T_init : zYk y_T_init c_T_init 1 0 := ⟨ztc1 45 rfl rfl, ztc1 44 (by decide +kernel) rfl, ztc1 2 (by decide +kernel) rfl, rfl, by decide +kernel⟩
def kL_5 : List zL := kL_4.set 0 (zOb 10 [some (some 1), some none, some none, some none, some none, some none, some none, some none, some none, some none, none, none])
theorem k_cl_R_16 : Cond.classLink "GentleRoad" 16 RX2 ∈ zT := ztc1 55 (by decide +kernel) rfl
theorem k_in_2 : Cond.instantiable RX2 2 ∈ zT := ztc1 56 (by decide +kernel) rfl
theorem k_ii_2 : Cond.initialized RX2 ∈ zT := ztc1 3 (by decide +kernel) rfl
def kL_6 : List zL := kL_5 ++ [zOb 2 [some none, some none]]
theorem k_ol_L : Cond.methodLink "GentleRoad$Land" 5 Lib.objectInit ∈ zT := ztc1 60 (by decide +kernel) rfl
def kL_7 : List zL := kL_6 ++ [zAr 1 499]
def kL_8 : List zL := kL_7.set 3 (zOb 2 [some (some 4), some none])
def kL_9 : List zL := kL_8 ++ [zAr 1 648]
def kL_10 : List zL := kL_9.set 3 (zOb 2 [some (some 4), some (some 5)])
def kS_L_init (σ : zS) : zS := zW (zFill (σ) 5 0 648 (-1)) 4 (zCpy (zSV 2) ((zFill (σ) 5 0 648 (-1)) 4) 0 2 11)
abbrev rm_L_init : Room := { frames := 2, cells := 2, slots := 1147, locals := 60 }
theorem kz_L_init {σ : zS} {m : Nat} (hm : 6 ≤ m) (hz : zHz m σ) : zHz m (kS_L_init σ) := (zHz_W (zHz_F hz (by omega)) (by omega))
set_option maxRecDepth 20000 in
set_option maxHeartbeats 4000000 in
theorem s_L_init {Ω : zO} {q0 q1 q2 q3 : Nat} {σ : zS} (hz : zHz 4 σ) : zMk Ω y_L_init (.code y_L_init c_L_init 1 none) rm_L_init kL_6 kL_10 [q0, q1, q2, q3] (fun v => [q0, q1, q2, q3, v 0, v 1]) [.ref q3] σ (fun σ' => σ' = kS_L_init σ) := by
  refine z_ofk (lv := [(0, .ref q3)]) (by decide) rfl rfl (Nat.le_of_ble_eq_true rfl) ?_
  intro Γ Q cx hin rt
  refine v_aload_n cx 0 d_L_init_0 rfl rfl ?_
  refine k_obj cx k_ol_L k_oi k_oc (Nat.le_of_ble_eq_true rfl) (Nat.le_of_ble_eq_true rfl) d_L_init_1 ?_
  refine v_aload_n cx 0 d_L_init_4 rfl rfl ?_
  refine v_sipush cx (by decide) d_L_init_5 ?_
  refine k_newi (qs := [q0, q1, q2, q3]) (Ls := kL_6) (Ls' := kL_7) (N := 499) cx rfl rfl (by decide +kernel) hz k_aci (Nat.le_of_ble_eq_true rfl) (Nat.le_of_ble_eq_true rfl) (Nat.le_of_ble_eq_true rfl) d_L_init_8 rfl (fun r4 => ?_)
  replace hz := zHz_s hz
  refine k_putr (ad := zAd [q0, q1, q2, q3, r4]) (Ls := kL_7) (Ls' := kL_8) (r := 4) cx hin 3 0 tyX2 tyX2_ok nmX2 rfl (by decide) rfl (by decide) inX2 fl_L_11 rfl rfl (tyX2_ok 0 (by decide)) rfl rfl d_L_init_10 rfl ?_
  refine v_aload_n cx 0 d_L_init_13 rfl rfl ?_
  refine v_sipush cx (by decide) d_L_init_14 ?_
  refine k_newi (qs := [q0, q1, q2, q3, r4]) (Ls := kL_8) (Ls' := kL_9) (N := 648) cx rfl rfl (by decide +kernel) hz k_aci (Nat.le_of_ble_eq_true rfl) (Nat.le_of_ble_eq_true rfl) (Nat.le_of_ble_eq_true rfl) d_L_init_17 rfl (fun r5 => ?_)
  replace hz := zHz_s hz
  refine k_putr (ad := zAd [q0, q1, q2, q3, r4, r5]) (Ls := kL_9) (Ls' := kL_10) (r := 5) cx hin 3 1 tyX2 tyX2_ok nmX2 rfl (by decide) rfl (by decide) inX2 fl_L_15 rfl rfl (tyX2_ok 1 (by decide)) rfl rfl d_L_init_19 rfl ?_
  refine v_aload_n cx 0 d_L_init_22 rfl rfl ?_
  refine v_getr (o := 3) (r := 5) (ad := zAd [q0, q1, q2, q3, r4, r5]) (Ls := kL_10) cx 1 rfl rfl rfl (by decide) inX2 fl_L_15 d_L_init_23 ?_
  refine v_iconst cx d_L_init_26 ?_
  refine v_callSv (st := []) (Ls := kL_10) (ad := zAd [q0, q1, q2, q3, r4, r5]) cx (s_J_fill2L (Ls := kL_10) (ad := zAd [q0, q1, q2, q3, r4, r5]) (o := 5) (N := 648) (v := (-1)) (K := fun s => s = zFill (σ) 5 0 648 (-1)) rfl (by decide) ⟨by decide, by decide⟩ rfl) yk_J_fill2 lk_L_18 rfl rfl (Nat.le_of_ble_eq_true rfl) ⟨(Nat.le_of_ble_eq_true rfl), (Nat.le_of_ble_eq_true rfl)⟩ ⟨(Nat.le_of_ble_eq_true rfl), (Nat.le_of_ble_eq_true rfl)⟩ d_L_init_27 (fun σx hsx => ?_)
  subst hsx
  replace hz := zHz_F (u := 5) (a := 0) (b := 648) (v := (-1)) hz (by decide)
  refine gs_L_24 cx d_L_init_30 ?_
  refine v_iconst cx d_L_init_33 ?_
  refine v_aload_n cx 0 d_L_init_34 rfl rfl ?_
  refine v_getr (o := 3) (r := 4) (ad := zAd [q0, q1, q2, q3, r4, r5]) (Ls := kL_10) cx 0 rfl rfl rfl (by decide) inX2 fl_L_11 d_L_init_35 ?_
  refine v_iconst cx d_L_init_38 ?_
  refine v_bipush cx (by decide) d_L_init_39 ?_
  refine v_copyS (Ls := kL_10) (ad := zAd [q0, q1, q2, q3, r4, r5]) (o1 := 4) (sp := 0) (dp := 2) (mm := 11) cx 2 rfl rfl rfl rfl lk_L_27 zcopy.1 zcopy.2.1 zcopy.2.2 (by decide) (by decide) (by decide) (by decide) (by decide) (by decide) (by decide) (Nat.le_of_ble_eq_true rfl) (Nat.le_of_ble_eq_true rfl) d_L_init_41 ?_
  replace hz := zHz_W (u := 4) (f := zCpy (zSV 2) ((zFill (σ) 5 0 648 (-1)) 4) 0 2 11) hz (by decide)
  exact rt _ _ _ _ _ (zAd [r4, r5]) (Nat.le_of_ble_eq_true rfl) (Nat.le_of_ble_eq_true rfl) d_L_init_44 rfl
theorem k_il_R_18 : Cond.methodLink "GentleRoad" 18 y_L_init ∈ zT := ztc1 57 (by decide +kernel) rfl
theorem k_yk_L_init : zYk y_L_init c_L_init 1 0 := ⟨ztc1 59 rfl rfl, ztc1 58 (by decide +kernel) rfl, ztc1 3 (by decide +kernel) rfl, rfl, by decide +kernel⟩
def kL_11 : List zL := kL_10.set 0 (zOb 10 [some (some 1), some (some 3), some none, some none, some none, some none, some none, some none, some none, some none, none, none])
theorem k_cl_R_23 : Cond.classLink "GentleRoad" 23 RX8 ∈ zT := ztc1 76 (by decide +kernel) rfl
theorem k_in_8 : Cond.instantiable RX8 6 ∈ zT := ztc1 77 (by decide +kernel) rfl
theorem k_ii_8 : Cond.initialized RX8 ∈ zT := ztc1 6 (by decide +kernel) rfl
def kL_12 : List zL := kL_11 ++ [zOb 8 [some none, some none, some none, none, none, none]]
theorem k_ol_X : Cond.methodLink "GentleRoad$Text" 3 Lib.objectInit ∈ zT := ztc1 81 (by decide +kernel) rfl
def kL_13 : List zL := kL_12.set 6 (zOb 8 [some (some 1), some none, some none, none, none, none])
def kL_14 : List zL := kL_13 ++ [zAr 1 499]
def kL_15 : List zL := kL_14.set 6 (zOb 8 [some (some 1), some (some 7), some none, none, none, none])
def kL_16 : List zL := kL_15 ++ [zAr 2 11]
def kL_17 : List zL := kL_16.set 6 (zOb 8 [some (some 1), some (some 7), some (some 8), none, none, none])
def kS_X_init (σ : zS) : zS := σ
abbrev rm_X_init : Room := { frames := 1, cells := 2, slots := 510, locals := 60 }
theorem kz_X_init {σ : zS} {m : Nat} (hm : 9 ≤ m) (hz : zHz m σ) : zHz m (kS_X_init σ) := hz
set_option maxRecDepth 20000 in
set_option maxHeartbeats 4000000 in
theorem s_X_init {Ω : zO} {q0 q1 q2 q3 q4 q5 q6 : Nat} {σ : zS} (hz : zHz 7 σ) : zMk Ω y_X_init (.code y_X_init c_X_init 2 none) rm_X_init kL_12 kL_17 [q0, q1, q2, q3, q4, q5, q6] (fun v => [q0, q1, q2, q3, q4, q5, q6, v 0, v 1]) [.ref q6, .ref q1] σ (fun σ' => σ' = kS_X_init σ) := by
  refine z_ofk (lv := [(0, .ref q6), (1, .ref q1)]) (by decide) rfl rfl (Nat.le_of_ble_eq_true rfl) ?_
  intro Γ Q cx hin rt
  refine v_aload_n cx 0 d_X_init_0 rfl rfl ?_
  refine k_obj cx k_ol_X k_oi k_oc (Nat.le_of_ble_eq_true rfl) (Nat.le_of_ble_eq_true rfl) d_X_init_1 ?_
  refine v_aload_n cx 0 d_X_init_4 rfl rfl ?_
  refine v_aload_n cx 1 d_X_init_5 rfl rfl ?_
  refine k_putr (ad := zAd [q0, q1, q2, q3, q4, q5, q6]) (Ls := kL_12) (Ls' := kL_13) (r := 1) cx hin 6 0 tyX8 tyX8_ok nmX8 rfl (by decide) rfl (by decide) inX8 fl_X_9 rfl rfl (tyX8_ok 0 (by decide)) rfl rfl d_X_init_6 rfl ?_
  refine v_aload_n cx 0 d_X_init_9 rfl rfl ?_
  refine v_sipush cx (by decide) d_X_init_10 ?_
  refine k_newi (qs := [q0, q1, q2, q3, q4, q5, q6]) (Ls := kL_13) (Ls' := kL_14) (N := 499) cx rfl rfl (by decide +kernel) hz k_aci (Nat.le_of_ble_eq_true rfl) (Nat.le_of_ble_eq_true rfl) (Nat.le_of_ble_eq_true rfl) d_X_init_13 rfl (fun r7 => ?_)
  replace hz := zHz_s hz
  refine k_putr (ad := zAd [q0, q1, q2, q3, q4, q5, q6, r7]) (Ls := kL_14) (Ls' := kL_15) (r := 7) cx hin 6 1 tyX8 tyX8_ok nmX8 rfl (by decide) rfl (by decide) inX8 fl_X_17 rfl rfl (tyX8_ok 1 (by decide)) rfl rfl d_X_init_15 rfl ?_
  refine v_aload_n cx 0 d_X_init_18 rfl rfl ?_
  refine v_bipush cx (by decide) d_X_init_19 ?_
  refine k_newz (qs := [q0, q1, q2, q3, q4, q5, q6, r7]) (Ls := kL_15) (Ls' := kL_16) (N := 11) cx rfl rfl (by decide +kernel) hz k_acz (Nat.le_of_ble_eq_true rfl) (Nat.le_of_ble_eq_true rfl) (Nat.le_of_ble_eq_true rfl) d_X_init_21 rfl (fun r8 => ?_)
  replace hz := zHz_s hz
  refine k_putr (ad := zAd [q0, q1, q2, q3, q4, q5, q6, r7, r8]) (Ls := kL_16) (Ls' := kL_17) (r := 8) cx hin 6 2 tyX8 tyX8_ok nmX8 rfl (by decide) rfl (by decide) inX8 fl_X_21 rfl rfl (tyX8_ok 2 (by decide)) rfl rfl d_X_init_23 rfl ?_
  exact rt _ _ _ _ _ (zAd [r7, r8]) (Nat.le_of_ble_eq_true rfl) (Nat.le_of_ble_eq_true rfl) d_X_init_26 rfl
theorem k_il_R_25 : Cond.methodLink "GentleRoad" 25 y_X_init ∈ zT := ztc1 78 (by decide +kernel) rfl
theorem k_yk_X_init : zYk y_X_init c_X_init 2 1 := ⟨ztc1 80 rfl rfl, ztc1 79 (by decide +kernel) rfl, ztc1 6 (by decide +kernel) rfl, rfl, by decide +kernel⟩
def kL_18 : List zL := kL_17.set 0 (zOb 10 [some (some 1), some (some 3), some (some 6), some none, some none, some none, some none, some none, some none, some none, none, none])
theorem k_cl_R_32 : Cond.classLink "GentleRoad" 32 RX3 ∈ zT := ztc1 102 (by decide +kernel) rfl
theorem k_in_3 : Cond.instantiable RX3 3 ∈ zT := ztc1 103 (by decide +kernel) rfl
theorem k_ii_3 : Cond.initialized RX3 ∈ zT := ztc1 7 (by decide +kernel) rfl
def kL_19 : List zL := kL_18 ++ [zOb 3 [some none, none, none]]
theorem k_ol_P : Cond.methodLink "GentleRoad$Past" 1 Lib.objectInit ∈ zT := ztc1 107 (by decide +kernel) rfl
def kL_20 : List zL := kL_19 ++ [zAr 1 3992]
def kL_21 : List zL := kL_20.set 9 (zOb 3 [some (some 10), none, none])
def kS_P_init (σ : zS) : zS := zU (zU (σ) 9 1 0) 9 2 0
abbrev rm_P_init : Room := { frames := 1, cells := 1, slots := 3992, locals := 60 }
theorem kz_P_init {σ : zS} {m : Nat} (hm : 11 ≤ m) (hz : zHz m σ) : zHz m (kS_P_init σ) := (zHz_U (zHz_U hz (by omega)) (by omega))
set_option maxRecDepth 20000 in
set_option maxHeartbeats 4000000 in
theorem s_P_init {Ω : zO} {q0 q1 q2 q3 q4 q5 q6 q7 q8 q9 : Nat} {σ : zS} (hz : zHz 10 σ) : zMk Ω y_P_init (.code y_P_init c_P_init 1 none) rm_P_init kL_19 kL_21 [q0, q1, q2, q3, q4, q5, q6, q7, q8, q9] (fun v => [q0, q1, q2, q3, q4, q5, q6, q7, q8, q9, v 0]) [.ref q9] σ (fun σ' => σ' = kS_P_init σ) := by
  refine z_ofk (lv := [(0, .ref q9)]) (by decide) rfl rfl (Nat.le_of_ble_eq_true rfl) ?_
  intro Γ Q cx hin rt
  refine v_aload_n cx 0 d_P_init_0 rfl rfl ?_
  refine k_obj cx k_ol_P k_oi k_oc (Nat.le_of_ble_eq_true rfl) (Nat.le_of_ble_eq_true rfl) d_P_init_1 ?_
  refine v_aload_n cx 0 d_P_init_4 rfl rfl ?_
  refine v_sipush cx (by decide) d_P_init_5 ?_
  refine k_newi (qs := [q0, q1, q2, q3, q4, q5, q6, q7, q8, q9]) (Ls := kL_19) (Ls' := kL_20) (N := 3992) cx rfl rfl (by decide +kernel) hz k_aci (Nat.le_of_ble_eq_true rfl) (Nat.le_of_ble_eq_true rfl) (Nat.le_of_ble_eq_true rfl) d_P_init_8 rfl (fun r10 => ?_)
  replace hz := zHz_s hz
  refine k_putr (ad := zAd [q0, q1, q2, q3, q4, q5, q6, q7, q8, q9, r10]) (Ls := kL_20) (Ls' := kL_21) (r := 10) cx hin 9 0 tyX3 tyX3_ok nmX3 rfl (by decide) rfl (by decide) inX3 fl_P_11 rfl rfl (tyX3_ok 0 (by decide)) rfl rfl d_P_init_10 rfl ?_
  refine v_aload_n cx 0 d_P_init_13 rfl rfl ?_
  refine v_iconst cx d_P_init_14 ?_
  refine v_puti (o := 9) (a := 0) (ad := zAd [q0, q1, q2, q3, q4, q5, q6, q7, q8, q9, r10]) (Ls := kL_21) cx 1 tyX3 tyX3_ok nmX3 rfl rfl rfl (by decide) inX3 fl_P_15 rfl (tyX3_ok 1 (by decide)) rfl rfl ⟨by decide, by decide⟩ d_P_init_15 ?_
  replace hz := zHz_U (u := 9) (k := 1) (v := 0) hz (by decide)
  refine v_aload_n cx 0 d_P_init_18 rfl rfl ?_
  refine v_iconst cx d_P_init_19 ?_
  refine v_puti (o := 9) (a := 0) (ad := zAd [q0, q1, q2, q3, q4, q5, q6, q7, q8, q9, r10]) (Ls := kL_21) cx 2 tyX3 tyX3_ok nmX3 rfl rfl rfl (by decide) inX3 fl_P_19 rfl (tyX3_ok 2 (by decide)) rfl rfl ⟨by decide, by decide⟩ d_P_init_20 ?_
  replace hz := zHz_U (u := 9) (k := 2) (v := 0) hz (by decide)
  exact rt _ _ _ _ _ (zAd [r10]) (Nat.le_of_ble_eq_true rfl) (Nat.le_of_ble_eq_true rfl) d_P_init_23 rfl
theorem k_il_R_34 : Cond.methodLink "GentleRoad" 34 y_P_init ∈ zT := ztc1 104 (by decide +kernel) rfl
theorem k_yk_P_init : zYk y_P_init c_P_init 1 0 := ⟨ztc1 106 rfl rfl, ztc1 105 (by decide +kernel) rfl, ztc1 7 (by decide +kernel) rfl, rfl, by decide +kernel⟩
def kL_22 : List zL := kL_21.set 0 (zOb 10 [some (some 1), some (some 3), some (some 6), some (some 9), some none, some none, some none, some none, some none, some none, none, none])
theorem k_cl_R_39 : Cond.classLink "GentleRoad" 39 RX5 ∈ zT := ztc1 118 (by decide +kernel) rfl
theorem k_in_5 : Cond.instantiable RX5 4 ∈ zT := ztc1 119 (by decide +kernel) rfl
theorem k_ii_5 : Cond.initialized RX5 ∈ zT := ztc1 8 (by decide +kernel) rfl
def kL_23 : List zL := kL_22 ++ [zOb 5 [some none, some none, some none, some none]]
theorem k_ol_S : Cond.methodLink "GentleRoad$Streams" 3 Lib.objectInit ∈ zT := ztc1 123 (by decide +kernel) rfl
def kL_24 : List zL := kL_23.set 11 (zOb 5 [some (some 3), some none, some none, some none])
def kL_25 : List zL := kL_24 ++ [zAr 1 81]
def kL_26 : List zL := kL_25.set 11 (zOb 5 [some (some 3), some (some 12), some none, some none])
def kL_27 : List zL := kL_26 ++ [zAr 1 81]
def kL_28 : List zL := kL_27.set 11 (zOb 5 [some (some 3), some (some 12), some (some 13), some none])
def kL_29 : List zL := kL_28 ++ [zAr 1 81]
def kL_30 : List zL := kL_29.set 11 (zOb 5 [some (some 3), some (some 12), some (some 13), some (some 14)])
def kS_S_init (σ : zS) : zS := σ
abbrev rm_S_init : Room := { frames := 1, cells := 3, slots := 243, locals := 60 }
theorem kz_S_init {σ : zS} {m : Nat} (hm : 15 ≤ m) (hz : zHz m σ) : zHz m (kS_S_init σ) := hz
set_option maxRecDepth 20000 in
set_option maxHeartbeats 4000000 in
theorem s_S_init {Ω : zO} {q0 q1 q2 q3 q4 q5 q6 q7 q8 q9 q10 q11 : Nat} {σ : zS} (hz : zHz 12 σ) : zMk Ω y_S_init (.code y_S_init c_S_init 2 none) rm_S_init kL_23 kL_30 [q0, q1, q2, q3, q4, q5, q6, q7, q8, q9, q10, q11] (fun v => [q0, q1, q2, q3, q4, q5, q6, q7, q8, q9, q10, q11, v 0, v 1, v 2]) [.ref q11, .ref q3] σ (fun σ' => σ' = kS_S_init σ) := by
  refine z_ofk (lv := [(0, .ref q11), (1, .ref q3)]) (by decide) rfl rfl (Nat.le_of_ble_eq_true rfl) ?_
  intro Γ Q cx hin rt
  refine v_aload_n cx 0 d_S_init_0 rfl rfl ?_
  refine k_obj cx k_ol_S k_oi k_oc (Nat.le_of_ble_eq_true rfl) (Nat.le_of_ble_eq_true rfl) d_S_init_1 ?_
  refine v_aload_n cx 0 d_S_init_4 rfl rfl ?_
  refine v_aload_n cx 1 d_S_init_5 rfl rfl ?_
  refine k_putr (ad := zAd [q0, q1, q2, q3, q4, q5, q6, q7, q8, q9, q10, q11]) (Ls := kL_23) (Ls' := kL_24) (r := 3) cx hin 11 0 tyX5 tyX5_ok nmX5 rfl (by decide) rfl (by decide) inX5 fl_S_9 rfl rfl (tyX5_ok 0 (by decide)) rfl rfl d_S_init_6 rfl ?_
  refine v_aload_n cx 0 d_S_init_9 rfl rfl ?_
  refine v_bipush cx (by decide) d_S_init_10 ?_
  refine k_newi (qs := [q0, q1, q2, q3, q4, q5, q6, q7, q8, q9, q10, q11]) (Ls := kL_24) (Ls' := kL_25) (N := 81) cx rfl rfl (by decide +kernel) hz k_aci (Nat.le_of_ble_eq_true rfl) (Nat.le_of_ble_eq_true rfl) (Nat.le_of_ble_eq_true rfl) d_S_init_12 rfl (fun r12 => ?_)
  replace hz := zHz_s hz
  refine k_putr (ad := zAd [q0, q1, q2, q3, q4, q5, q6, q7, q8, q9, q10, q11, r12]) (Ls := kL_25) (Ls' := kL_26) (r := 12) cx hin 11 1 tyX5 tyX5_ok nmX5 rfl (by decide) rfl (by decide) inX5 fl_S_15 rfl rfl (tyX5_ok 1 (by decide)) rfl rfl d_S_init_14 rfl ?_
  refine v_aload_n cx 0 d_S_init_17 rfl rfl ?_
  refine v_bipush cx (by decide) d_S_init_18 ?_
  refine k_newi (qs := [q0, q1, q2, q3, q4, q5, q6, q7, q8, q9, q10, q11, r12]) (Ls := kL_26) (Ls' := kL_27) (N := 81) cx rfl rfl (by decide +kernel) hz k_aci (Nat.le_of_ble_eq_true rfl) (Nat.le_of_ble_eq_true rfl) (Nat.le_of_ble_eq_true rfl) d_S_init_20 rfl (fun r13 => ?_)
  replace hz := zHz_s hz
  refine k_putr (ad := zAd [q0, q1, q2, q3, q4, q5, q6, q7, q8, q9, q10, q11, r12, r13]) (Ls := kL_27) (Ls' := kL_28) (r := 13) cx hin 11 2 tyX5 tyX5_ok nmX5 rfl (by decide) rfl (by decide) inX5 fl_S_19 rfl rfl (tyX5_ok 2 (by decide)) rfl rfl d_S_init_22 rfl ?_
  refine v_aload_n cx 0 d_S_init_25 rfl rfl ?_
  refine v_bipush cx (by decide) d_S_init_26 ?_
  refine k_newi (qs := [q0, q1, q2, q3, q4, q5, q6, q7, q8, q9, q10, q11, r12, r13]) (Ls := kL_28) (Ls' := kL_29) (N := 81) cx rfl rfl (by decide +kernel) hz k_aci (Nat.le_of_ble_eq_true rfl) (Nat.le_of_ble_eq_true rfl) (Nat.le_of_ble_eq_true rfl) d_S_init_28 rfl (fun r14 => ?_)
  replace hz := zHz_s hz
  refine k_putr (ad := zAd [q0, q1, q2, q3, q4, q5, q6, q7, q8, q9, q10, q11, r12, r13, r14]) (Ls := kL_29) (Ls' := kL_30) (r := 14) cx hin 11 3 tyX5 tyX5_ok nmX5 rfl (by decide) rfl (by decide) inX5 fl_S_22 rfl rfl (tyX5_ok 3 (by decide)) rfl rfl d_S_init_30 rfl ?_
  exact rt _ _ _ _ _ (zAd [r12, r13, r14]) (Nat.le_of_ble_eq_true rfl) (Nat.le_of_ble_eq_true rfl) d_S_init_33 rfl
theorem k_il_R_41 : Cond.methodLink "GentleRoad" 41 y_S_init ∈ zT := ztc1 120 (by decide +kernel) rfl
theorem k_yk_S_init : zYk y_S_init c_S_init 2 1 := ⟨ztc1 122 rfl rfl, ztc1 121 (by decide +kernel) rfl, ztc1 8 (by decide +kernel) rfl, rfl, by decide +kernel⟩
def kL_31 : List zL := kL_30.set 0 (zOb 10 [some (some 1), some (some 3), some (some 6), some (some 9), some (some 11), some none, some none, some none, some none, some none, none, none])
theorem k_cl_R_48 : Cond.classLink "GentleRoad" 48 RX9 ∈ zT := ztc1 137 (by decide +kernel) rfl
theorem k_in_9 : Cond.instantiable RX9 14 ∈ zT := ztc1 138 (by decide +kernel) rfl
theorem k_ii_9 : Cond.initialized RX9 ∈ zT := ztc1 9 (by decide +kernel) rfl
def kL_32 : List zL := kL_31 ++ [zOb 9 [some none, some none, some none, some none, some none, some none, some none, some none, some none, some none, some none, none, none, none]]
theorem k_ol_W : Cond.methodLink "GentleRoad$Ways" 3 Lib.objectInit ∈ zT := ztc1 142 (by decide +kernel) rfl
def kL_33 : List zL := kL_32.set 15 (zOb 9 [some (some 3), some none, some none, some none, some none, some none, some none, some none, some none, some none, some none, none, none, none])
def kL_34 : List zL := kL_33.set 15 (zOb 9 [some (some 3), some (some 11), some none, some none, some none, some none, some none, some none, some none, some none, some none, none, none, none])
def kL_35 : List zL := kL_34 ++ [zAr 1 648]
def kL_36 : List zL := kL_35.set 15 (zOb 9 [some (some 3), some (some 11), some (some 16), some none, some none, some none, some none, some none, some none, some none, some none, none, none, none])
def kL_37 : List zL := kL_36 ++ [zAr 1 648]
def kL_38 : List zL := kL_37.set 15 (zOb 9 [some (some 3), some (some 11), some (some 16), some (some 17), some none, some none, some none, some none, some none, some none, some none, none, none, none])
def kL_39 : List zL := kL_38 ++ [zAr 2 81]
def kL_40 : List zL := kL_39.set 15 (zOb 9 [some (some 3), some (some 11), some (some 16), some (some 17), some (some 18), some none, some none, some none, some none, some none, some none, none, none, none])
def kL_41 : List zL := kL_40 ++ [zAr 1 5]
def kL_42 : List zL := kL_41.set 15 (zOb 9 [some (some 3), some (some 11), some (some 16), some (some 17), some (some 18), some (some 19), some none, some none, some none, some none, some none, none, none, none])
def kL_43 : List zL := kL_42 ++ [zAr 1 81]
def kL_44 : List zL := kL_43.set 15 (zOb 9 [some (some 3), some (some 11), some (some 16), some (some 17), some (some 18), some (some 19), some (some 20), some none, some none, some none, some none, none, none, none])
theorem k_cl_W_36 : Cond.classLink "GentleRoad$Ways" 36 RX1 ∈ zT := ztc1 143 (by decide +kernel) rfl
theorem k_in_1 : Cond.instantiable RX1 4 ∈ zT := ztc1 144 (by decide +kernel) rfl
theorem k_ii_1 : Cond.initialized RX1 ∈ zT := ztc1 10 (by decide +kernel) rfl
def kL_45 : List zL := kL_44 ++ [zOb 1 [some none, some none, some none, none]]
theorem k_ol_H : Cond.methodLink "GentleRoad$Heap" 3 Lib.objectInit ∈ zT := ztc1 148 (by decide +kernel) rfl
def kL_46 : List zL := kL_45 ++ [zAr 1 2592]
def kL_47 : List zL := kL_46.set 21 (zOb 1 [some (some 22), some none, some none, none])
def kL_48 : List zL := kL_47 ++ [zAr 1 2592]
def kL_49 : List zL := kL_48.set 21 (zOb 1 [some (some 22), some (some 23), some none, none])
def kL_50 : List zL := kL_49 ++ [zAr 1 2592]
def kL_51 : List zL := kL_50.set 21 (zOb 1 [some (some 22), some (some 23), some (some 24), none])
def kS_H_init (σ : zS) : zS := zU (σ) 21 3 0
abbrev rm_H_init : Room := { frames := 1, cells := 3, slots := 7776, locals := 60 }
theorem kz_H_init {σ : zS} {m : Nat} (hm : 25 ≤ m) (hz : zHz m σ) : zHz m (kS_H_init σ) := (zHz_U hz (by omega))
set_option maxRecDepth 20000 in
set_option maxHeartbeats 4000000 in
theorem s_H_init {Ω : zO} {q0 q1 q2 q3 q4 q5 q6 q7 q8 q9 q10 q11 q12 q13 q14 q15 q16 q17 q18 q19 q20 q21 : Nat} {σ : zS} (hz : zHz 22 σ) : zMk Ω y_H_init (.code y_H_init c_H_init 2 none) rm_H_init kL_45 kL_51 [q0, q1, q2, q3, q4, q5, q6, q7, q8, q9, q10, q11, q12, q13, q14, q15, q16, q17, q18, q19, q20, q21] (fun v => [q0, q1, q2, q3, q4, q5, q6, q7, q8, q9, q10, q11, q12, q13, q14, q15, q16, q17, q18, q19, q20, q21, v 0, v 1, v 2]) [.ref q21, .int (zI 2592)] σ (fun σ' => σ' = kS_H_init σ) := by
  refine z_ofk (lv := [(0, .ref q21), (1, .int (zI 2592))]) (by decide) rfl rfl (Nat.le_of_ble_eq_true rfl) ?_
  intro Γ Q cx hin rt
  refine v_aload_n cx 0 d_H_init_0 rfl rfl ?_
  refine k_obj cx k_ol_H k_oi k_oc (Nat.le_of_ble_eq_true rfl) (Nat.le_of_ble_eq_true rfl) d_H_init_1 ?_
  refine v_aload_n cx 0 d_H_init_4 rfl rfl ?_
  refine v_iload_n cx 1 d_H_init_5 rfl rfl ?_
  refine k_newi (qs := [q0, q1, q2, q3, q4, q5, q6, q7, q8, q9, q10, q11, q12, q13, q14, q15, q16, q17, q18, q19, q20, q21]) (Ls := kL_45) (Ls' := kL_46) (N := 2592) cx rfl rfl (by decide +kernel) hz k_aci (Nat.le_of_ble_eq_true rfl) (Nat.le_of_ble_eq_true rfl) (Nat.le_of_ble_eq_true rfl) d_H_init_6 rfl (fun r22 => ?_)
  replace hz := zHz_s hz
  refine k_putr (ad := zAd [q0, q1, q2, q3, q4, q5, q6, q7, q8, q9, q10, q11, q12, q13, q14, q15, q16, q17, q18, q19, q20, q21, r22]) (Ls := kL_46) (Ls' := kL_47) (r := 22) cx hin 21 0 tyX1 tyX1_ok nmX1 rfl (by decide) rfl (by decide) inX1 fl_H_9 rfl rfl (tyX1_ok 0 (by decide)) rfl rfl d_H_init_8 rfl ?_
  refine v_aload_n cx 0 d_H_init_11 rfl rfl ?_
  refine v_iload_n cx 1 d_H_init_12 rfl rfl ?_
  refine k_newi (qs := [q0, q1, q2, q3, q4, q5, q6, q7, q8, q9, q10, q11, q12, q13, q14, q15, q16, q17, q18, q19, q20, q21, r22]) (Ls := kL_47) (Ls' := kL_48) (N := 2592) cx rfl rfl (by decide +kernel) hz k_aci (Nat.le_of_ble_eq_true rfl) (Nat.le_of_ble_eq_true rfl) (Nat.le_of_ble_eq_true rfl) d_H_init_13 rfl (fun r23 => ?_)
  replace hz := zHz_s hz
  refine k_putr (ad := zAd [q0, q1, q2, q3, q4, q5, q6, q7, q8, q9, q10, q11, q12, q13, q14, q15, q16, q17, q18, q19, q20, q21, r22, r23]) (Ls := kL_48) (Ls' := kL_49) (r := 23) cx hin 21 1 tyX1 tyX1_ok nmX1 rfl (by decide) rfl (by decide) inX1 fl_H_15 rfl rfl (tyX1_ok 1 (by decide)) rfl rfl d_H_init_15 rfl ?_
  refine v_aload_n cx 0 d_H_init_18 rfl rfl ?_
  refine v_iload_n cx 1 d_H_init_19 rfl rfl ?_
  refine k_newi (qs := [q0, q1, q2, q3, q4, q5, q6, q7, q8, q9, q10, q11, q12, q13, q14, q15, q16, q17, q18, q19, q20, q21, r22, r23]) (Ls := kL_49) (Ls' := kL_50) (N := 2592) cx rfl rfl (by decide +kernel) hz k_aci (Nat.le_of_ble_eq_true rfl) (Nat.le_of_ble_eq_true rfl) (Nat.le_of_ble_eq_true rfl) d_H_init_20 rfl (fun r24 => ?_)
  replace hz := zHz_s hz
  refine k_putr (ad := zAd [q0, q1, q2, q3, q4, q5, q6, q7, q8, q9, q10, q11, q12, q13, q14, q15, q16, q17, q18, q19, q20, q21, r22, r23, r24]) (Ls := kL_50) (Ls' := kL_51) (r := 24) cx hin 21 2 tyX1 tyX1_ok nmX1 rfl (by decide) rfl (by decide) inX1 fl_H_18 rfl rfl (tyX1_ok 2 (by decide)) rfl rfl d_H_init_22 rfl ?_
  refine v_aload_n cx 0 d_H_init_25 rfl rfl ?_
  refine v_iconst cx d_H_init_26 ?_
  refine v_puti (o := 21) (a := 0) (ad := zAd [q0, q1, q2, q3, q4, q5, q6, q7, q8, q9, q10, q11, q12, q13, q14, q15, q16, q17, q18, q19, q20, q21, r22, r23, r24]) (Ls := kL_51) cx 3 tyX1 tyX1_ok nmX1 rfl rfl rfl (by decide) inX1 fl_H_21 rfl (tyX1_ok 3 (by decide)) rfl rfl ⟨by decide, by decide⟩ d_H_init_27 ?_
  replace hz := zHz_U (u := 21) (k := 3) (v := 0) hz (by decide)
  exact rt _ _ _ _ _ (zAd [r22, r23, r24]) (Nat.le_of_ble_eq_true rfl) (Nat.le_of_ble_eq_true rfl) d_H_init_30 rfl
theorem k_il_W_38 : Cond.methodLink "GentleRoad$Ways" 38 y_H_init ∈ zT := ztc1 145 (by decide +kernel) rfl
theorem k_yk_H_init : zYk y_H_init c_H_init 2 1 := ⟨ztc1 147 rfl rfl, ztc1 146 (by decide +kernel) rfl, ztc1 10 (by decide +kernel) rfl, rfl, by decide +kernel⟩
def kL_52 : List zL := kL_51.set 15 (zOb 9 [some (some 3), some (some 11), some (some 16), some (some 17), some (some 18), some (some 19), some (some 20), some (some 21), some none, some none, some none, none, none, none])
def kL_53 : List zL := kL_52 ++ [zAr 1 649]
def kL_54 : List zL := kL_53.set 15 (zOb 9 [some (some 3), some (some 11), some (some 16), some (some 17), some (some 18), some (some 19), some (some 20), some (some 21), some (some 25), some none, some none, none, none, none])
def kL_55 : List zL := kL_54 ++ [zAr 1 648]
def kL_56 : List zL := kL_55.set 15 (zOb 9 [some (some 3), some (some 11), some (some 16), some (some 17), some (some 18), some (some 19), some (some 20), some (some 21), some (some 25), some (some 26), some none, none, none, none])
def kL_57 : List zL := kL_56 ++ [zAr 1 648]
def kL_58 : List zL := kL_57.set 15 (zOb 9 [some (some 3), some (some 11), some (some 16), some (some 17), some (some 18), some (some 19), some (some 20), some (some 21), some (some 25), some (some 26), some (some 27), none, none, none])
def kS_W_init (σ : zS) : zS := zU (zU (kS_H_init (σ)) 15 12 1) 15 13 0
abbrev rm_W_init : Room := { frames := 2, cells := 12, slots := 11188, locals := 81 }
theorem kz_W_init {σ : zS} {m : Nat} (hm : 28 ≤ m) (hz : zHz m σ) : zHz m (kS_W_init σ) := (zHz_U (zHz_U (kz_H_init (by omega) hz) (by omega)) (by omega))
set_option maxRecDepth 20000 in
set_option maxHeartbeats 4000000 in
theorem s_W_init {Ω : zO} {q0 q1 q2 q3 q4 q5 q6 q7 q8 q9 q10 q11 q12 q13 q14 q15 : Nat} {σ : zS} (hz : zHz 16 σ) : zMk Ω y_W_init (.code y_W_init c_W_init 3 none) rm_W_init kL_32 kL_58 [q0, q1, q2, q3, q4, q5, q6, q7, q8, q9, q10, q11, q12, q13, q14, q15] (fun v => [q0, q1, q2, q3, q4, q5, q6, q7, q8, q9, q10, q11, q12, q13, q14, q15, v 0, v 1, v 2, v 3, v 4, v 5, v 6, v 7, v 8, v 9, v 10, v 11]) [.ref q15, .ref q3, .ref q11] σ (fun σ' => σ' = kS_W_init σ) := by
  refine z_ofk (lv := [(0, .ref q15), (1, .ref q3), (2, .ref q11)]) (by decide) rfl rfl (Nat.le_of_ble_eq_true rfl) ?_
  intro Γ Q cx hin rt
  refine v_aload_n cx 0 d_W_init_0 rfl rfl ?_
  refine k_obj cx k_ol_W k_oi k_oc (Nat.le_of_ble_eq_true rfl) (Nat.le_of_ble_eq_true rfl) d_W_init_1 ?_
  refine v_aload_n cx 0 d_W_init_4 rfl rfl ?_
  refine v_aload_n cx 1 d_W_init_5 rfl rfl ?_
  refine k_putr (ad := zAd [q0, q1, q2, q3, q4, q5, q6, q7, q8, q9, q10, q11, q12, q13, q14, q15]) (Ls := kL_32) (Ls' := kL_33) (r := 3) cx hin 15 0 tyX9 tyX9_ok nmX9 rfl (by decide) rfl (by decide) inX9 fl_W_9 rfl rfl (tyX9_ok 0 (by decide)) rfl rfl d_W_init_6 rfl ?_
  refine v_aload_n cx 0 d_W_init_9 rfl rfl ?_
  refine v_aload_n cx 2 d_W_init_10 rfl rfl ?_
  refine k_putr (ad := zAd [q0, q1, q2, q3, q4, q5, q6, q7, q8, q9, q10, q11, q12, q13, q14, q15]) (Ls := kL_33) (Ls' := kL_34) (r := 11) cx hin 15 1 tyX9 tyX9_ok nmX9 rfl (by decide) rfl (by decide) inX9 fl_W_15 rfl rfl (tyX9_ok 1 (by decide)) rfl rfl d_W_init_11 rfl ?_
  refine v_aload_n cx 0 d_W_init_14 rfl rfl ?_
  refine v_sipush cx (by decide) d_W_init_15 ?_
  refine k_newi (qs := [q0, q1, q2, q3, q4, q5, q6, q7, q8, q9, q10, q11, q12, q13, q14, q15]) (Ls := kL_34) (Ls' := kL_35) (N := 648) cx rfl rfl (by decide +kernel) hz k_aci (Nat.le_of_ble_eq_true rfl) (Nat.le_of_ble_eq_true rfl) (Nat.le_of_ble_eq_true rfl) d_W_init_18 rfl (fun r16 => ?_)
  replace hz := zHz_s hz
  refine k_putr (ad := zAd [q0, q1, q2, q3, q4, q5, q6, q7, q8, q9, q10, q11, q12, q13, q14, q15, r16]) (Ls := kL_35) (Ls' := kL_36) (r := 16) cx hin 15 2 tyX9 tyX9_ok nmX9 rfl (by decide) rfl (by decide) inX9 fl_W_19 rfl rfl (tyX9_ok 2 (by decide)) rfl rfl d_W_init_20 rfl ?_
  refine v_aload_n cx 0 d_W_init_23 rfl rfl ?_
  refine v_sipush cx (by decide) d_W_init_24 ?_
  refine k_newi (qs := [q0, q1, q2, q3, q4, q5, q6, q7, q8, q9, q10, q11, q12, q13, q14, q15, r16]) (Ls := kL_36) (Ls' := kL_37) (N := 648) cx rfl rfl (by decide +kernel) hz k_aci (Nat.le_of_ble_eq_true rfl) (Nat.le_of_ble_eq_true rfl) (Nat.le_of_ble_eq_true rfl) d_W_init_27 rfl (fun r17 => ?_)
  replace hz := zHz_s hz
  refine k_putr (ad := zAd [q0, q1, q2, q3, q4, q5, q6, q7, q8, q9, q10, q11, q12, q13, q14, q15, r16, r17]) (Ls := kL_37) (Ls' := kL_38) (r := 17) cx hin 15 3 tyX9 tyX9_ok nmX9 rfl (by decide) rfl (by decide) inX9 fl_W_23 rfl rfl (tyX9_ok 3 (by decide)) rfl rfl d_W_init_29 rfl ?_
  refine v_aload_n cx 0 d_W_init_32 rfl rfl ?_
  refine v_bipush cx (by decide) d_W_init_33 ?_
  refine k_newz (qs := [q0, q1, q2, q3, q4, q5, q6, q7, q8, q9, q10, q11, q12, q13, q14, q15, r16, r17]) (Ls := kL_38) (Ls' := kL_39) (N := 81) cx rfl rfl (by decide +kernel) hz k_acz (Nat.le_of_ble_eq_true rfl) (Nat.le_of_ble_eq_true rfl) (Nat.le_of_ble_eq_true rfl) d_W_init_35 rfl (fun r18 => ?_)
  replace hz := zHz_s hz
  refine k_putr (ad := zAd [q0, q1, q2, q3, q4, q5, q6, q7, q8, q9, q10, q11, q12, q13, q14, q15, r16, r17, r18]) (Ls := kL_39) (Ls' := kL_40) (r := 18) cx hin 15 4 tyX9 tyX9_ok nmX9 rfl (by decide) rfl (by decide) inX9 fl_W_26 rfl rfl (tyX9_ok 4 (by decide)) rfl rfl d_W_init_37 rfl ?_
  refine v_aload_n cx 0 d_W_init_40 rfl rfl ?_
  refine v_iconst cx d_W_init_41 ?_
  refine k_newi (qs := [q0, q1, q2, q3, q4, q5, q6, q7, q8, q9, q10, q11, q12, q13, q14, q15, r16, r17, r18]) (Ls := kL_40) (Ls' := kL_41) (N := 5) cx rfl rfl (by decide +kernel) hz k_aci (Nat.le_of_ble_eq_true rfl) (Nat.le_of_ble_eq_true rfl) (Nat.le_of_ble_eq_true rfl) d_W_init_42 rfl (fun r19 => ?_)
  replace hz := zHz_s hz
  refine k_putr (ad := zAd [q0, q1, q2, q3, q4, q5, q6, q7, q8, q9, q10, q11, q12, q13, q14, q15, r16, r17, r18, r19]) (Ls := kL_41) (Ls' := kL_42) (r := 19) cx hin 15 5 tyX9 tyX9_ok nmX9 rfl (by decide) rfl (by decide) inX9 fl_W_30 rfl rfl (tyX9_ok 5 (by decide)) rfl rfl d_W_init_44 rfl ?_
  refine v_aload_n cx 0 d_W_init_47 rfl rfl ?_
  refine v_bipush cx (by decide) d_W_init_48 ?_
  refine k_newi (qs := [q0, q1, q2, q3, q4, q5, q6, q7, q8, q9, q10, q11, q12, q13, q14, q15, r16, r17, r18, r19]) (Ls := kL_42) (Ls' := kL_43) (N := 81) cx rfl rfl (by decide +kernel) hz k_aci (Nat.le_of_ble_eq_true rfl) (Nat.le_of_ble_eq_true rfl) (Nat.le_of_ble_eq_true rfl) d_W_init_50 rfl (fun r20 => ?_)
  replace hz := zHz_s hz
  refine k_putr (ad := zAd [q0, q1, q2, q3, q4, q5, q6, q7, q8, q9, q10, q11, q12, q13, q14, q15, r16, r17, r18, r19, r20]) (Ls := kL_43) (Ls' := kL_44) (r := 20) cx hin 15 6 tyX9 tyX9_ok nmX9 rfl (by decide) rfl (by decide) inX9 fl_W_33 rfl rfl (tyX9_ok 6 (by decide)) rfl rfl d_W_init_52 rfl ?_
  refine v_aload_n cx 0 d_W_init_55 rfl rfl ?_
  refine k_new (qs := [q0, q1, q2, q3, q4, q5, q6, q7, q8, q9, q10, q11, q12, q13, q14, q15, r16, r17, r18, r19, r20]) (Ls := kL_44) (Ls' := kL_45) (fv := [.null, .null, .null, .int 0]) cx tyX1 tyX1_ok inX1 k_cl_W_36 k_in_1 k_ii_1 rfl (by decide) (fun _ => rfl) rfl (by decide +kernel) hz (Nat.le_of_ble_eq_true rfl) (Nat.le_of_ble_eq_true rfl) d_W_init_56 rfl (fun r21 => ?_)
  replace hz := zHz_s hz
  refine v_dup cx d_W_init_59 rfl ?_
  refine v_sipush cx (by decide) d_W_init_60 ?_
  refine k_call (st := [.ref r21, .ref q15]) cx (s_H_init (Ω := Ω) (q0 := q0) (q1 := q1) (q2 := q2) (q3 := q3) (q4 := q4) (q5 := q5) (q6 := q6) (q7 := q7) (q8 := q8) (q9 := q9) (q10 := q10) (q11 := q11) (q12 := q12) (q13 := q13) (q14 := q14) (q15 := q15) (q16 := r16) (q17 := r17) (q18 := r18) (q19 := r19) (q20 := r20) (q21 := r21) hz) k_yk_H_init k_il_W_38 rfl rfl (Nat.le_of_ble_eq_true rfl) ⟨(Nat.le_of_ble_eq_true rfl), (Nat.le_of_ble_eq_true rfl)⟩ ⟨(Nat.le_of_ble_eq_true rfl), (Nat.le_of_ble_eq_true rfl)⟩ d_W_init_63 (fun v22 σx hsx => ?_)
  subst hsx
  replace hz := kz_H_init (m := 25) (by decide) (zHz_up hz (by decide))
  refine k_putr (ad := zAd [q0, q1, q2, q3, q4, q5, q6, q7, q8, q9, q10, q11, q12, q13, q14, q15, r16, r17, r18, r19, r20, r21, (v22 0), (v22 1), (v22 2)]) (Ls := kL_51) (Ls' := kL_52) (r := 21) cx hin 15 7 tyX9 tyX9_ok nmX9 rfl (by decide) rfl (by decide) inX9 fl_W_41 rfl rfl (tyX9_ok 7 (by decide)) rfl rfl d_W_init_66 rfl ?_
  refine v_aload_n cx 0 d_W_init_69 rfl rfl ?_
  refine v_sipush cx (by decide) d_W_init_70 ?_
  refine k_newi (qs := [q0, q1, q2, q3, q4, q5, q6, q7, q8, q9, q10, q11, q12, q13, q14, q15, r16, r17, r18, r19, r20, r21, (v22 0), (v22 1), (v22 2)]) (Ls := kL_52) (Ls' := kL_53) (N := 649) cx rfl rfl (by decide +kernel) hz k_aci (Nat.le_of_ble_eq_true rfl) (Nat.le_of_ble_eq_true rfl) (Nat.le_of_ble_eq_true rfl) d_W_init_73 rfl (fun r25 => ?_)
  replace hz := zHz_s hz
  refine k_putr (ad := zAd [q0, q1, q2, q3, q4, q5, q6, q7, q8, q9, q10, q11, q12, q13, q14, q15, r16, r17, r18, r19, r20, r21, (v22 0), (v22 1), (v22 2), r25]) (Ls := kL_53) (Ls' := kL_54) (r := 25) cx hin 15 8 tyX9 tyX9_ok nmX9 rfl (by decide) rfl (by decide) inX9 fl_W_45 rfl rfl (tyX9_ok 8 (by decide)) rfl rfl d_W_init_75 rfl ?_
  refine v_aload_n cx 0 d_W_init_78 rfl rfl ?_
  refine v_sipush cx (by decide) d_W_init_79 ?_
  refine k_newi (qs := [q0, q1, q2, q3, q4, q5, q6, q7, q8, q9, q10, q11, q12, q13, q14, q15, r16, r17, r18, r19, r20, r21, (v22 0), (v22 1), (v22 2), r25]) (Ls := kL_54) (Ls' := kL_55) (N := 648) cx rfl rfl (by decide +kernel) hz k_aci (Nat.le_of_ble_eq_true rfl) (Nat.le_of_ble_eq_true rfl) (Nat.le_of_ble_eq_true rfl) d_W_init_82 rfl (fun r26 => ?_)
  replace hz := zHz_s hz
  refine k_putr (ad := zAd [q0, q1, q2, q3, q4, q5, q6, q7, q8, q9, q10, q11, q12, q13, q14, q15, r16, r17, r18, r19, r20, r21, (v22 0), (v22 1), (v22 2), r25, r26]) (Ls := kL_55) (Ls' := kL_56) (r := 26) cx hin 15 9 tyX9 tyX9_ok nmX9 rfl (by decide) rfl (by decide) inX9 fl_W_48 rfl rfl (tyX9_ok 9 (by decide)) rfl rfl d_W_init_84 rfl ?_
  refine v_aload_n cx 0 d_W_init_87 rfl rfl ?_
  refine v_sipush cx (by decide) d_W_init_88 ?_
  refine k_newi (qs := [q0, q1, q2, q3, q4, q5, q6, q7, q8, q9, q10, q11, q12, q13, q14, q15, r16, r17, r18, r19, r20, r21, (v22 0), (v22 1), (v22 2), r25, r26]) (Ls := kL_56) (Ls' := kL_57) (N := 648) cx rfl rfl (by decide +kernel) hz k_aci (Nat.le_of_ble_eq_true rfl) (Nat.le_of_ble_eq_true rfl) (Nat.le_of_ble_eq_true rfl) d_W_init_91 rfl (fun r27 => ?_)
  replace hz := zHz_s hz
  refine k_putr (ad := zAd [q0, q1, q2, q3, q4, q5, q6, q7, q8, q9, q10, q11, q12, q13, q14, q15, r16, r17, r18, r19, r20, r21, (v22 0), (v22 1), (v22 2), r25, r26, r27]) (Ls := kL_57) (Ls' := kL_58) (r := 27) cx hin 15 10 tyX9 tyX9_ok nmX9 rfl (by decide) rfl (by decide) inX9 fl_W_51 rfl rfl (tyX9_ok 10 (by decide)) rfl rfl d_W_init_93 rfl ?_
  refine v_aload_n cx 0 d_W_init_96 rfl rfl ?_
  refine v_iconst cx d_W_init_97 ?_
  refine v_puti (o := 15) (a := 1) (ad := zAd [q0, q1, q2, q3, q4, q5, q6, q7, q8, q9, q10, q11, q12, q13, q14, q15, r16, r17, r18, r19, r20, r21, (v22 0), (v22 1), (v22 2), r25, r26, r27]) (Ls := kL_58) cx 12 tyX9 tyX9_ok nmX9 rfl rfl rfl (by decide) inX9 fl_W_54 rfl (tyX9_ok 12 (by decide)) rfl rfl ⟨by decide, by decide⟩ d_W_init_98 ?_
  replace hz := zHz_U (u := 15) (k := 12) (v := 1) hz (by decide)
  refine v_aload_n cx 0 d_W_init_101 rfl rfl ?_
  refine v_iconst cx d_W_init_102 ?_
  refine v_puti (o := 15) (a := 0) (ad := zAd [q0, q1, q2, q3, q4, q5, q6, q7, q8, q9, q10, q11, q12, q13, q14, q15, r16, r17, r18, r19, r20, r21, (v22 0), (v22 1), (v22 2), r25, r26, r27]) (Ls := kL_58) cx 13 tyX9 tyX9_ok nmX9 rfl rfl rfl (by decide) inX9 fl_W_58 rfl (tyX9_ok 13 (by decide)) rfl rfl ⟨by decide, by decide⟩ d_W_init_103 ?_
  replace hz := zHz_U (u := 15) (k := 13) (v := 0) hz (by decide)
  exact rt _ _ _ _ _ (zAd [r16, r17, r18, r19, r20, r21, (v22 0), (v22 1), (v22 2), r25, r26, r27]) (Nat.le_of_ble_eq_true rfl) (Nat.le_of_ble_eq_true rfl) d_W_init_106 rfl
theorem k_il_R_50 : Cond.methodLink "GentleRoad" 50 y_W_init ∈ zT := ztc1 139 (by decide +kernel) rfl
theorem k_yk_W_init : zYk y_W_init c_W_init 3 2 := ⟨ztc1 141 rfl rfl, ztc1 140 (by decide +kernel) rfl, ztc1 9 (by decide +kernel) rfl, rfl, by decide +kernel⟩
def kL_59 : List zL := kL_58.set 0 (zOb 10 [some (some 1), some (some 3), some (some 6), some (some 9), some (some 11), some (some 15), some none, some none, some none, some none, none, none])
theorem k_cl_R_57 : Cond.classLink "GentleRoad" 57 RX4 ∈ zT := ztc1 205 (by decide +kernel) rfl
theorem k_in_4 : Cond.instantiable RX4 10 ∈ zT := ztc1 206 (by decide +kernel) rfl
theorem k_ii_4 : Cond.initialized RX4 ∈ zT := ztc1 11 (by decide +kernel) rfl
def kL_60 : List zL := kL_59 ++ [zOb 4 [some none, some none, some none, some none, some none, some none, some none, some none, none, none]]
theorem k_ol_N : Cond.methodLink "GentleRoad$Planner" 3 Lib.objectInit ∈ zT := ztc1 210 (by decide +kernel) rfl
def kL_61 : List zL := kL_60.set 28 (zOb 4 [some (some 3), some none, some none, some none, some none, some none, some none, some none, none, none])
def kL_62 : List zL := kL_61.set 28 (zOb 4 [some (some 3), some (some 15), some none, some none, some none, some none, some none, some none, none, none])
def kL_63 : List zL := kL_62 ++ [zAr 1 81]
def kL_64 : List zL := kL_63.set 28 (zOb 4 [some (some 3), some (some 15), some (some 29), some none, some none, some none, some none, some none, none, none])
def kL_65 : List zL := kL_64 ++ [zAr 1 81]
def kL_66 : List zL := kL_65.set 28 (zOb 4 [some (some 3), some (some 15), some (some 29), some (some 30), some none, some none, some none, some none, none, none])
def kL_67 : List zL := kL_66 ++ [zAr 1 81]
def kL_68 : List zL := kL_67.set 28 (zOb 4 [some (some 3), some (some 15), some (some 29), some (some 30), some (some 31), some none, some none, some none, none, none])
def kL_69 : List zL := kL_68 ++ [zAr 1 6]
def kL_70 : List zL := kL_69.set 28 (zOb 4 [some (some 3), some (some 15), some (some 29), some (some 30), some (some 31), some (some 32), some none, some none, none, none])
def kL_71 : List zL := kL_70 ++ [zAr 1 36]
def kL_72 : List zL := kL_71.set 28 (zOb 4 [some (some 3), some (some 15), some (some 29), some (some 30), some (some 31), some (some 32), some (some 33), some none, none, none])
def kL_73 : List zL := kL_72 ++ [zAr 1 192]
def kL_74 : List zL := kL_73.set 28 (zOb 4 [some (some 3), some (some 15), some (some 29), some (some 30), some (some 31), some (some 32), some (some 33), some (some 34), none, none])
def kS_N_init (σ : zS) : zS := zU (zU (σ) 28 8 0) 28 9 (-1)
abbrev rm_N_init : Room := { frames := 1, cells := 6, slots := 477, locals := 60 }
theorem kz_N_init {σ : zS} {m : Nat} (hm : 35 ≤ m) (hz : zHz m σ) : zHz m (kS_N_init σ) := (zHz_U (zHz_U hz (by omega)) (by omega))
set_option maxRecDepth 20000 in
set_option maxHeartbeats 4000000 in
theorem s_N_init {Ω : zO} {q0 q1 q2 q3 q4 q5 q6 q7 q8 q9 q10 q11 q12 q13 q14 q15 q16 q17 q18 q19 q20 q21 q22 q23 q24 q25 q26 q27 q28 : Nat} {σ : zS} (hz : zHz 29 σ) : zMk Ω y_N_init (.code y_N_init c_N_init 3 none) rm_N_init kL_60 kL_74 [q0, q1, q2, q3, q4, q5, q6, q7, q8, q9, q10, q11, q12, q13, q14, q15, q16, q17, q18, q19, q20, q21, q22, q23, q24, q25, q26, q27, q28] (fun v => [q0, q1, q2, q3, q4, q5, q6, q7, q8, q9, q10, q11, q12, q13, q14, q15, q16, q17, q18, q19, q20, q21, q22, q23, q24, q25, q26, q27, q28, v 0, v 1, v 2, v 3, v 4, v 5]) [.ref q28, .ref q3, .ref q15] σ (fun σ' => σ' = kS_N_init σ) := by
  refine z_ofk (lv := [(0, .ref q28), (1, .ref q3), (2, .ref q15)]) (by decide) rfl rfl (Nat.le_of_ble_eq_true rfl) ?_
  intro Γ Q cx hin rt
  refine v_aload_n cx 0 d_N_init_0 rfl rfl ?_
  refine k_obj cx k_ol_N k_oi k_oc (Nat.le_of_ble_eq_true rfl) (Nat.le_of_ble_eq_true rfl) d_N_init_1 ?_
  refine v_aload_n cx 0 d_N_init_4 rfl rfl ?_
  refine v_aload_n cx 1 d_N_init_5 rfl rfl ?_
  refine k_putr (ad := zAd [q0, q1, q2, q3, q4, q5, q6, q7, q8, q9, q10, q11, q12, q13, q14, q15, q16, q17, q18, q19, q20, q21, q22, q23, q24, q25, q26, q27, q28]) (Ls := kL_60) (Ls' := kL_61) (r := 3) cx hin 28 0 tyX4 tyX4_ok nmX4 rfl (by decide) rfl (by decide) inX4 fl_N_9 rfl rfl (tyX4_ok 0 (by decide)) rfl rfl d_N_init_6 rfl ?_
  refine v_aload_n cx 0 d_N_init_9 rfl rfl ?_
  refine v_aload_n cx 2 d_N_init_10 rfl rfl ?_
  refine k_putr (ad := zAd [q0, q1, q2, q3, q4, q5, q6, q7, q8, q9, q10, q11, q12, q13, q14, q15, q16, q17, q18, q19, q20, q21, q22, q23, q24, q25, q26, q27, q28]) (Ls := kL_61) (Ls' := kL_62) (r := 15) cx hin 28 1 tyX4 tyX4_ok nmX4 rfl (by decide) rfl (by decide) inX4 fl_N_15 rfl rfl (tyX4_ok 1 (by decide)) rfl rfl d_N_init_11 rfl ?_
  refine v_aload_n cx 0 d_N_init_14 rfl rfl ?_
  refine v_bipush cx (by decide) d_N_init_15 ?_
  refine k_newi (qs := [q0, q1, q2, q3, q4, q5, q6, q7, q8, q9, q10, q11, q12, q13, q14, q15, q16, q17, q18, q19, q20, q21, q22, q23, q24, q25, q26, q27, q28]) (Ls := kL_62) (Ls' := kL_63) (N := 81) cx rfl rfl (by decide +kernel) hz k_aci (Nat.le_of_ble_eq_true rfl) (Nat.le_of_ble_eq_true rfl) (Nat.le_of_ble_eq_true rfl) d_N_init_17 rfl (fun r29 => ?_)
  replace hz := zHz_s hz
  refine k_putr (ad := zAd [q0, q1, q2, q3, q4, q5, q6, q7, q8, q9, q10, q11, q12, q13, q14, q15, q16, q17, q18, q19, q20, q21, q22, q23, q24, q25, q26, q27, q28, r29]) (Ls := kL_63) (Ls' := kL_64) (r := 29) cx hin 28 2 tyX4 tyX4_ok nmX4 rfl (by decide) rfl (by decide) inX4 fl_N_19 rfl rfl (tyX4_ok 2 (by decide)) rfl rfl d_N_init_19 rfl ?_
  refine v_aload_n cx 0 d_N_init_22 rfl rfl ?_
  refine v_bipush cx (by decide) d_N_init_23 ?_
  refine k_newi (qs := [q0, q1, q2, q3, q4, q5, q6, q7, q8, q9, q10, q11, q12, q13, q14, q15, q16, q17, q18, q19, q20, q21, q22, q23, q24, q25, q26, q27, q28, r29]) (Ls := kL_64) (Ls' := kL_65) (N := 81) cx rfl rfl (by decide +kernel) hz k_aci (Nat.le_of_ble_eq_true rfl) (Nat.le_of_ble_eq_true rfl) (Nat.le_of_ble_eq_true rfl) d_N_init_25 rfl (fun r30 => ?_)
  replace hz := zHz_s hz
  refine k_putr (ad := zAd [q0, q1, q2, q3, q4, q5, q6, q7, q8, q9, q10, q11, q12, q13, q14, q15, q16, q17, q18, q19, q20, q21, q22, q23, q24, q25, q26, q27, q28, r29, r30]) (Ls := kL_65) (Ls' := kL_66) (r := 30) cx hin 28 3 tyX4 tyX4_ok nmX4 rfl (by decide) rfl (by decide) inX4 fl_N_23 rfl rfl (tyX4_ok 3 (by decide)) rfl rfl d_N_init_27 rfl ?_
  refine v_aload_n cx 0 d_N_init_30 rfl rfl ?_
  refine v_bipush cx (by decide) d_N_init_31 ?_
  refine k_newi (qs := [q0, q1, q2, q3, q4, q5, q6, q7, q8, q9, q10, q11, q12, q13, q14, q15, q16, q17, q18, q19, q20, q21, q22, q23, q24, q25, q26, q27, q28, r29, r30]) (Ls := kL_66) (Ls' := kL_67) (N := 81) cx rfl rfl (by decide +kernel) hz k_aci (Nat.le_of_ble_eq_true rfl) (Nat.le_of_ble_eq_true rfl) (Nat.le_of_ble_eq_true rfl) d_N_init_33 rfl (fun r31 => ?_)
  replace hz := zHz_s hz
  refine k_putr (ad := zAd [q0, q1, q2, q3, q4, q5, q6, q7, q8, q9, q10, q11, q12, q13, q14, q15, q16, q17, q18, q19, q20, q21, q22, q23, q24, q25, q26, q27, q28, r29, r30, r31]) (Ls := kL_67) (Ls' := kL_68) (r := 31) cx hin 28 4 tyX4 tyX4_ok nmX4 rfl (by decide) rfl (by decide) inX4 fl_N_26 rfl rfl (tyX4_ok 4 (by decide)) rfl rfl d_N_init_35 rfl ?_
  refine v_aload_n cx 0 d_N_init_38 rfl rfl ?_
  refine v_bipush cx (by decide) d_N_init_39 ?_
  refine k_newi (qs := [q0, q1, q2, q3, q4, q5, q6, q7, q8, q9, q10, q11, q12, q13, q14, q15, q16, q17, q18, q19, q20, q21, q22, q23, q24, q25, q26, q27, q28, r29, r30, r31]) (Ls := kL_68) (Ls' := kL_69) (N := 6) cx rfl rfl (by decide +kernel) hz k_aci (Nat.le_of_ble_eq_true rfl) (Nat.le_of_ble_eq_true rfl) (Nat.le_of_ble_eq_true rfl) d_N_init_41 rfl (fun r32 => ?_)
  replace hz := zHz_s hz
  refine k_putr (ad := zAd [q0, q1, q2, q3, q4, q5, q6, q7, q8, q9, q10, q11, q12, q13, q14, q15, q16, q17, q18, q19, q20, q21, q22, q23, q24, q25, q26, q27, q28, r29, r30, r31, r32]) (Ls := kL_69) (Ls' := kL_70) (r := 32) cx hin 28 5 tyX4 tyX4_ok nmX4 rfl (by decide) rfl (by decide) inX4 fl_N_29 rfl rfl (tyX4_ok 5 (by decide)) rfl rfl d_N_init_43 rfl ?_
  refine v_aload_n cx 0 d_N_init_46 rfl rfl ?_
  refine v_bipush cx (by decide) d_N_init_47 ?_
  refine k_newi (qs := [q0, q1, q2, q3, q4, q5, q6, q7, q8, q9, q10, q11, q12, q13, q14, q15, q16, q17, q18, q19, q20, q21, q22, q23, q24, q25, q26, q27, q28, r29, r30, r31, r32]) (Ls := kL_70) (Ls' := kL_71) (N := 36) cx rfl rfl (by decide +kernel) hz k_aci (Nat.le_of_ble_eq_true rfl) (Nat.le_of_ble_eq_true rfl) (Nat.le_of_ble_eq_true rfl) d_N_init_49 rfl (fun r33 => ?_)
  replace hz := zHz_s hz
  refine k_putr (ad := zAd [q0, q1, q2, q3, q4, q5, q6, q7, q8, q9, q10, q11, q12, q13, q14, q15, q16, q17, q18, q19, q20, q21, q22, q23, q24, q25, q26, q27, q28, r29, r30, r31, r32, r33]) (Ls := kL_71) (Ls' := kL_72) (r := 33) cx hin 28 6 tyX4 tyX4_ok nmX4 rfl (by decide) rfl (by decide) inX4 fl_N_32 rfl rfl (tyX4_ok 6 (by decide)) rfl rfl d_N_init_51 rfl ?_
  refine v_aload_n cx 0 d_N_init_54 rfl rfl ?_
  refine v_sipush cx (by decide) d_N_init_55 ?_
  refine k_newi (qs := [q0, q1, q2, q3, q4, q5, q6, q7, q8, q9, q10, q11, q12, q13, q14, q15, q16, q17, q18, q19, q20, q21, q22, q23, q24, q25, q26, q27, q28, r29, r30, r31, r32, r33]) (Ls := kL_72) (Ls' := kL_73) (N := 192) cx rfl rfl (by decide +kernel) hz k_aci (Nat.le_of_ble_eq_true rfl) (Nat.le_of_ble_eq_true rfl) (Nat.le_of_ble_eq_true rfl) d_N_init_58 rfl (fun r34 => ?_)
  replace hz := zHz_s hz
  refine k_putr (ad := zAd [q0, q1, q2, q3, q4, q5, q6, q7, q8, q9, q10, q11, q12, q13, q14, q15, q16, q17, q18, q19, q20, q21, q22, q23, q24, q25, q26, q27, q28, r29, r30, r31, r32, r33, r34]) (Ls := kL_73) (Ls' := kL_74) (r := 34) cx hin 28 7 tyX4 tyX4_ok nmX4 rfl (by decide) rfl (by decide) inX4 fl_N_35 rfl rfl (tyX4_ok 7 (by decide)) rfl rfl d_N_init_60 rfl ?_
  refine v_aload_n cx 0 d_N_init_63 rfl rfl ?_
  refine v_iconst cx d_N_init_64 ?_
  refine v_puti (o := 28) (a := 0) (ad := zAd [q0, q1, q2, q3, q4, q5, q6, q7, q8, q9, q10, q11, q12, q13, q14, q15, q16, q17, q18, q19, q20, q21, q22, q23, q24, q25, q26, q27, q28, r29, r30, r31, r32, r33, r34]) (Ls := kL_74) cx 8 tyX4 tyX4_ok nmX4 rfl rfl rfl (by decide) inX4 fl_N_38 rfl (tyX4_ok 8 (by decide)) rfl rfl ⟨by decide, by decide⟩ d_N_init_65 ?_
  replace hz := zHz_U (u := 28) (k := 8) (v := 0) hz (by decide)
  refine v_aload_n cx 0 d_N_init_68 rfl rfl ?_
  refine v_iconst cx d_N_init_69 ?_
  refine v_puti (o := 28) (a := (-1)) (ad := zAd [q0, q1, q2, q3, q4, q5, q6, q7, q8, q9, q10, q11, q12, q13, q14, q15, q16, q17, q18, q19, q20, q21, q22, q23, q24, q25, q26, q27, q28, r29, r30, r31, r32, r33, r34]) (Ls := kL_74) cx 9 tyX4 tyX4_ok nmX4 rfl rfl rfl (by decide) inX4 fl_N_42 rfl (tyX4_ok 9 (by decide)) rfl rfl ⟨by decide, by decide⟩ d_N_init_70 ?_
  replace hz := zHz_U (u := 28) (k := 9) (v := (-1)) hz (by decide)
  exact rt _ _ _ _ _ (zAd [r29, r30, r31, r32, r33, r34]) (Nat.le_of_ble_eq_true rfl) (Nat.le_of_ble_eq_true rfl) d_N_init_73 rfl
theorem k_il_R_59 : Cond.methodLink "GentleRoad" 59 y_N_init ∈ zT := ztc1 207 (by decide +kernel) rfl
theorem k_yk_N_init : zYk y_N_init c_N_init 3 2 := ⟨ztc1 209 rfl rfl, ztc1 208 (by decide +kernel) rfl, ztc1 11 (by decide +kernel) rfl, rfl, by decide +kernel⟩
def kL_75 : List zL := kL_74.set 0 (zOb 10 [some (some 1), some (some 3), some (some 6), some (some 9), some (some 11), some (some 15), some (some 28), some none, some none, some none, none, none])
theorem k_cl_R_66 : Cond.classLink "GentleRoad" 66 RX0 ∈ zT := ztc2 2 (by decide +kernel) rfl
theorem k_in_0 : Cond.instantiable RX0 8 ∈ zT := ztc2 3 (by decide +kernel) rfl
theorem k_ii_0 : Cond.initialized RX0 ∈ zT := ztc1 12 (by decide +kernel) rfl
def kL_76 : List zL := kL_75 ++ [zOb 0 [some none, some none, some none, none, none, none, none, none]]
theorem k_ol_G : Cond.methodLink "GentleRoad$Grader" 5 Lib.objectInit ∈ zT := ztc2 7 (by decide +kernel) rfl
def kL_77 : List zL := kL_76.set 35 (zOb 0 [some (some 3), some none, some none, none, none, none, none, none])
def kL_78 : List zL := kL_77 ++ [zAr 1 2114]
def kL_79 : List zL := kL_78.set 35 (zOb 0 [some (some 3), some (some 36), some none, none, none, none, none, none])
def kL_80 : List zL := kL_79 ++ [zAr 1 6040]
def kL_81 : List zL := kL_80.set 35 (zOb 0 [some (some 3), some (some 36), some (some 37), none, none, none, none, none])
def kS_G_init (σ : zS) : zS := zU (σ) 35 3 0
abbrev rm_G_init : Room := { frames := 1, cells := 2, slots := 8154, locals := 60 }
theorem kz_G_init {σ : zS} {m : Nat} (hm : 38 ≤ m) (hz : zHz m σ) : zHz m (kS_G_init σ) := (zHz_U hz (by omega))
set_option maxRecDepth 20000 in
set_option maxHeartbeats 4000000 in
theorem s_G_init {Ω : zO} {q0 q1 q2 q3 q4 q5 q6 q7 q8 q9 q10 q11 q12 q13 q14 q15 q16 q17 q18 q19 q20 q21 q22 q23 q24 q25 q26 q27 q28 q29 q30 q31 q32 q33 q34 q35 : Nat} {σ : zS} (hz : zHz 36 σ) : zMk Ω y_G_init (.code y_G_init c_G_init 2 none) rm_G_init kL_76 kL_81 [q0, q1, q2, q3, q4, q5, q6, q7, q8, q9, q10, q11, q12, q13, q14, q15, q16, q17, q18, q19, q20, q21, q22, q23, q24, q25, q26, q27, q28, q29, q30, q31, q32, q33, q34, q35] (fun v => [q0, q1, q2, q3, q4, q5, q6, q7, q8, q9, q10, q11, q12, q13, q14, q15, q16, q17, q18, q19, q20, q21, q22, q23, q24, q25, q26, q27, q28, q29, q30, q31, q32, q33, q34, q35, v 0, v 1]) [.ref q35, .ref q3] σ (fun σ' => σ' = kS_G_init σ) := by
  refine z_ofk (lv := [(0, .ref q35), (1, .ref q3)]) (by decide) rfl rfl (Nat.le_of_ble_eq_true rfl) ?_
  intro Γ Q cx hin rt
  refine v_aload_n cx 0 d_G_init_0 rfl rfl ?_
  refine k_obj cx k_ol_G k_oi k_oc (Nat.le_of_ble_eq_true rfl) (Nat.le_of_ble_eq_true rfl) d_G_init_1 ?_
  refine v_aload_n cx 0 d_G_init_4 rfl rfl ?_
  refine v_aload_n cx 1 d_G_init_5 rfl rfl ?_
  refine k_putr (ad := zAd [q0, q1, q2, q3, q4, q5, q6, q7, q8, q9, q10, q11, q12, q13, q14, q15, q16, q17, q18, q19, q20, q21, q22, q23, q24, q25, q26, q27, q28, q29, q30, q31, q32, q33, q34, q35]) (Ls := kL_76) (Ls' := kL_77) (r := 3) cx hin 35 0 tyX0 tyX0_ok nmX0 rfl (by decide) rfl (by decide) inX0 fl_G_11 rfl rfl (tyX0_ok 0 (by decide)) rfl rfl d_G_init_6 rfl ?_
  refine v_aload_n cx 0 d_G_init_9 rfl rfl ?_
  refine v_sipush cx (by decide) d_G_init_10 ?_
  refine k_newi (qs := [q0, q1, q2, q3, q4, q5, q6, q7, q8, q9, q10, q11, q12, q13, q14, q15, q16, q17, q18, q19, q20, q21, q22, q23, q24, q25, q26, q27, q28, q29, q30, q31, q32, q33, q34, q35]) (Ls := kL_77) (Ls' := kL_78) (N := 2114) cx rfl rfl (by decide +kernel) hz k_aci (Nat.le_of_ble_eq_true rfl) (Nat.le_of_ble_eq_true rfl) (Nat.le_of_ble_eq_true rfl) d_G_init_13 rfl (fun r36 => ?_)
  replace hz := zHz_s hz
  refine k_putr (ad := zAd [q0, q1, q2, q3, q4, q5, q6, q7, q8, q9, q10, q11, q12, q13, q14, q15, q16, q17, q18, q19, q20, q21, q22, q23, q24, q25, q26, q27, q28, q29, q30, q31, q32, q33, q34, q35, r36]) (Ls := kL_78) (Ls' := kL_79) (r := 36) cx hin 35 1 tyX0 tyX0_ok nmX0 rfl (by decide) rfl (by decide) inX0 fl_G_15 rfl rfl (tyX0_ok 1 (by decide)) rfl rfl d_G_init_15 rfl ?_
  refine v_aload_n cx 0 d_G_init_18 rfl rfl ?_
  refine v_sipush cx (by decide) d_G_init_19 ?_
  refine k_newi (qs := [q0, q1, q2, q3, q4, q5, q6, q7, q8, q9, q10, q11, q12, q13, q14, q15, q16, q17, q18, q19, q20, q21, q22, q23, q24, q25, q26, q27, q28, q29, q30, q31, q32, q33, q34, q35, r36]) (Ls := kL_79) (Ls' := kL_80) (N := 6040) cx rfl rfl (by decide +kernel) hz k_aci (Nat.le_of_ble_eq_true rfl) (Nat.le_of_ble_eq_true rfl) (Nat.le_of_ble_eq_true rfl) d_G_init_22 rfl (fun r37 => ?_)
  replace hz := zHz_s hz
  refine k_putr (ad := zAd [q0, q1, q2, q3, q4, q5, q6, q7, q8, q9, q10, q11, q12, q13, q14, q15, q16, q17, q18, q19, q20, q21, q22, q23, q24, q25, q26, q27, q28, q29, q30, q31, q32, q33, q34, q35, r36, r37]) (Ls := kL_80) (Ls' := kL_81) (r := 37) cx hin 35 2 tyX0 tyX0_ok nmX0 rfl (by decide) rfl (by decide) inX0 fl_G_19 rfl rfl (tyX0_ok 2 (by decide)) rfl rfl d_G_init_24 rfl ?_
  refine v_aload_n cx 0 d_G_init_27 rfl rfl ?_
  refine v_iconst cx d_G_init_28 ?_
  refine v_puti (o := 35) (a := 0) (ad := zAd [q0, q1, q2, q3, q4, q5, q6, q7, q8, q9, q10, q11, q12, q13, q14, q15, q16, q17, q18, q19, q20, q21, q22, q23, q24, q25, q26, q27, q28, q29, q30, q31, q32, q33, q34, q35, r36, r37]) (Ls := kL_81) cx 3 tyX0 tyX0_ok nmX0 rfl rfl rfl (by decide) inX0 fl_G_22 rfl (tyX0_ok 3 (by decide)) rfl rfl ⟨by decide, by decide⟩ d_G_init_29 ?_
  replace hz := zHz_U (u := 35) (k := 3) (v := 0) hz (by decide)
  exact rt _ _ _ _ _ (zAd [r36, r37]) (Nat.le_of_ble_eq_true rfl) (Nat.le_of_ble_eq_true rfl) d_G_init_32 rfl
theorem k_il_R_68 : Cond.methodLink "GentleRoad" 68 y_G_init ∈ zT := ztc2 4 (by decide +kernel) rfl
theorem k_yk_G_init : zYk y_G_init c_G_init 2 1 := ⟨ztc2 6 rfl rfl, ztc2 5 (by decide +kernel) rfl, ztc1 12 (by decide +kernel) rfl, rfl, by decide +kernel⟩
def kL_82 : List zL := kL_81.set 0 (zOb 10 [some (some 1), some (some 3), some (some 6), some (some 9), some (some 11), some (some 15), some (some 28), some (some 35), some none, some none, none, none])
theorem k_cl_R_73 : Cond.classLink "GentleRoad" 73 RX6 ∈ zT := ztc2 33 (by decide +kernel) rfl
theorem k_in_6 : Cond.instantiable RX6 4 ∈ zT := ztc2 34 (by decide +kernel) rfl
theorem k_ii_6 : Cond.initialized RX6 ∈ zT := ztc1 13 (by decide +kernel) rfl
def kL_83 : List zL := kL_82 ++ [zOb 6 [some none, some none, some none, some none]]
theorem k_ol_U : Cond.methodLink "GentleRoad$Survey" 3 Lib.objectInit ∈ zT := ztc2 38 (by decide +kernel) rfl
def kL_84 : List zL := kL_83.set 38 (zOb 6 [some (some 3), some none, some none, some none])
def kL_85 : List zL := kL_84.set 38 (zOb 6 [some (some 3), some (some 35), some none, some none])
def kL_86 : List zL := kL_85.set 38 (zOb 6 [some (some 3), some (some 35), some (some 11), some none])
def kL_87 : List zL := kL_86 ++ [zAr 1 81]
def kL_88 : List zL := kL_87.set 38 (zOb 6 [some (some 3), some (some 35), some (some 11), some (some 39)])
def kS_U_init (σ : zS) : zS := σ
abbrev rm_U_init : Room := { frames := 1, cells := 1, slots := 81, locals := 60 }
theorem kz_U_init {σ : zS} {m : Nat} (hm : 40 ≤ m) (hz : zHz m σ) : zHz m (kS_U_init σ) := hz
set_option maxRecDepth 20000 in
set_option maxHeartbeats 4000000 in
theorem s_U_init {Ω : zO} {q0 q1 q2 q3 q4 q5 q6 q7 q8 q9 q10 q11 q12 q13 q14 q15 q16 q17 q18 q19 q20 q21 q22 q23 q24 q25 q26 q27 q28 q29 q30 q31 q32 q33 q34 q35 q36 q37 q38 : Nat} {σ : zS} (hz : zHz 39 σ) : zMk Ω y_U_init (.code y_U_init c_U_init 4 none) rm_U_init kL_83 kL_88 [q0, q1, q2, q3, q4, q5, q6, q7, q8, q9, q10, q11, q12, q13, q14, q15, q16, q17, q18, q19, q20, q21, q22, q23, q24, q25, q26, q27, q28, q29, q30, q31, q32, q33, q34, q35, q36, q37, q38] (fun v => [q0, q1, q2, q3, q4, q5, q6, q7, q8, q9, q10, q11, q12, q13, q14, q15, q16, q17, q18, q19, q20, q21, q22, q23, q24, q25, q26, q27, q28, q29, q30, q31, q32, q33, q34, q35, q36, q37, q38, v 0]) [.ref q38, .ref q3, .ref q35, .ref q11] σ (fun σ' => σ' = kS_U_init σ) := by
  refine z_ofk (lv := [(0, .ref q38), (1, .ref q3), (2, .ref q35), (3, .ref q11)]) (by decide) rfl rfl (Nat.le_of_ble_eq_true rfl) ?_
  intro Γ Q cx hin rt
  refine v_aload_n cx 0 d_U_init_0 rfl rfl ?_
  refine k_obj cx k_ol_U k_oi k_oc (Nat.le_of_ble_eq_true rfl) (Nat.le_of_ble_eq_true rfl) d_U_init_1 ?_
  refine v_aload_n cx 0 d_U_init_4 rfl rfl ?_
  refine v_aload_n cx 1 d_U_init_5 rfl rfl ?_
  refine k_putr (ad := zAd [q0, q1, q2, q3, q4, q5, q6, q7, q8, q9, q10, q11, q12, q13, q14, q15, q16, q17, q18, q19, q20, q21, q22, q23, q24, q25, q26, q27, q28, q29, q30, q31, q32, q33, q34, q35, q36, q37, q38]) (Ls := kL_83) (Ls' := kL_84) (r := 3) cx hin 38 0 tyX6 tyX6_ok nmX6 rfl (by decide) rfl (by decide) inX6 fl_U_9 rfl rfl (tyX6_ok 0 (by decide)) rfl rfl d_U_init_6 rfl ?_
  refine v_aload_n cx 0 d_U_init_9 rfl rfl ?_
  refine v_aload_n cx 2 d_U_init_10 rfl rfl ?_
  refine k_putr (ad := zAd [q0, q1, q2, q3, q4, q5, q6, q7, q8, q9, q10, q11, q12, q13, q14, q15, q16, q17, q18, q19, q20, q21, q22, q23, q24, q25, q26, q27, q28, q29, q30, q31, q32, q33, q34, q35, q36, q37, q38]) (Ls := kL_84) (Ls' := kL_85) (r := 35) cx hin 38 1 tyX6 tyX6_ok nmX6 rfl (by decide) rfl (by decide) inX6 fl_U_15 rfl rfl (tyX6_ok 1 (by decide)) rfl rfl d_U_init_11 rfl ?_
  refine v_aload_n cx 0 d_U_init_14 rfl rfl ?_
  refine v_aload_n cx 3 d_U_init_15 rfl rfl ?_
  refine k_putr (ad := zAd [q0, q1, q2, q3, q4, q5, q6, q7, q8, q9, q10, q11, q12, q13, q14, q15, q16, q17, q18, q19, q20, q21, q22, q23, q24, q25, q26, q27, q28, q29, q30, q31, q32, q33, q34, q35, q36, q37, q38]) (Ls := kL_85) (Ls' := kL_86) (r := 11) cx hin 38 2 tyX6 tyX6_ok nmX6 rfl (by decide) rfl (by decide) inX6 fl_U_19 rfl rfl (tyX6_ok 2 (by decide)) rfl rfl d_U_init_16 rfl ?_
  refine v_aload_n cx 0 d_U_init_19 rfl rfl ?_
  refine v_bipush cx (by decide) d_U_init_20 ?_
  refine k_newi (qs := [q0, q1, q2, q3, q4, q5, q6, q7, q8, q9, q10, q11, q12, q13, q14, q15, q16, q17, q18, q19, q20, q21, q22, q23, q24, q25, q26, q27, q28, q29, q30, q31, q32, q33, q34, q35, q36, q37, q38]) (Ls := kL_86) (Ls' := kL_87) (N := 81) cx rfl rfl (by decide +kernel) hz k_aci (Nat.le_of_ble_eq_true rfl) (Nat.le_of_ble_eq_true rfl) (Nat.le_of_ble_eq_true rfl) d_U_init_22 rfl (fun r39 => ?_)
  replace hz := zHz_s hz
  refine k_putr (ad := zAd [q0, q1, q2, q3, q4, q5, q6, q7, q8, q9, q10, q11, q12, q13, q14, q15, q16, q17, q18, q19, q20, q21, q22, q23, q24, q25, q26, q27, q28, q29, q30, q31, q32, q33, q34, q35, q36, q37, q38, r39]) (Ls := kL_87) (Ls' := kL_88) (r := 39) cx hin 38 3 tyX6 tyX6_ok nmX6 rfl (by decide) rfl (by decide) inX6 fl_U_23 rfl rfl (tyX6_ok 3 (by decide)) rfl rfl d_U_init_24 rfl ?_
  exact rt _ _ _ _ _ (zAd [r39]) (Nat.le_of_ble_eq_true rfl) (Nat.le_of_ble_eq_true rfl) d_U_init_27 rfl
theorem k_il_R_75 : Cond.methodLink "GentleRoad" 75 y_U_init ∈ zT := ztc2 35 (by decide +kernel) rfl
theorem k_yk_U_init : zYk y_U_init c_U_init 4 3 := ⟨ztc2 37 rfl rfl, ztc2 36 (by decide +kernel) rfl, ztc1 13 (by decide +kernel) rfl, rfl, by decide +kernel⟩
def kL_89 : List zL := kL_88.set 0 (zOb 10 [some (some 1), some (some 3), some (some 6), some (some 9), some (some 11), some (some 15), some (some 28), some (some 35), some (some 38), some none, none, none])
def kL_90 : List zL := kL_89 ++ [zAr 1 499]
def kL_91 : List zL := kL_90.set 0 (zOb 10 [some (some 1), some (some 3), some (some 6), some (some 9), some (some 11), some (some 15), some (some 28), some (some 35), some (some 38), some (some 40), none, none])
def kS_R_init (σ : zS) : zS := zU (zU (kS_U_init (kS_G_init (kS_N_init (kS_W_init (kS_S_init (kS_P_init (kS_X_init (kS_L_init (kS_T_init (σ)))))))))) 0 10 0) 0 11 (-1)
abbrev rm_R_init : Room := { frames := 3, cells := 40, slots := 26744, locals := 103 }
theorem kz_R_init {σ : zS} {m : Nat} (hm : 41 ≤ m) (hz : zHz m σ) : zHz m (kS_R_init σ) := (zHz_U (zHz_U (kz_U_init (by omega) (kz_G_init (by omega) (kz_N_init (by omega) (kz_W_init (by omega) (kz_S_init (by omega) (kz_P_init (by omega) (kz_X_init (by omega) (kz_L_init (by omega) (kz_T_init (by omega) hz))))))))) (by omega)) (by omega))
set_option maxRecDepth 20000 in
set_option maxHeartbeats 4000000 in
theorem s_R_init {Ω : zO} {q0 : Nat} {σ : zS} (hz : zHz 1 σ) : zMk Ω y_R_init (.code y_R_init c_R_init 1 none) rm_R_init kL_1 kL_91 [q0] (fun v => [q0, v 0, v 1, v 2, v 3, v 4, v 5, v 6, v 7, v 8, v 9, v 10, v 11, v 12, v 13, v 14, v 15, v 16, v 17, v 18, v 19, v 20, v 21, v 22, v 23, v 24, v 25, v 26, v 27, v 28, v 29, v 30, v 31, v 32, v 33, v 34, v 35, v 36, v 37, v 38, v 39]) [.ref q0] σ (fun σ' => σ' = kS_R_init σ) := by
  refine z_ofk (lv := [(0, .ref q0)]) (by decide) rfl rfl (Nat.le_of_ble_eq_true rfl) ?_
  intro Γ Q cx hin rt
  refine v_aload_n cx 0 d_R_init_0 rfl rfl ?_
  refine k_obj cx k_ol_R k_oi k_oc (Nat.le_of_ble_eq_true rfl) (Nat.le_of_ble_eq_true rfl) d_R_init_1 ?_
  refine v_aload_n cx 0 d_R_init_4 rfl rfl ?_
  refine k_new (qs := [q0]) (Ls := kL_1) (Ls' := kL_2) (fv := [.null, .int 0]) cx tyX7 tyX7_ok inX7 k_cl_R_9 k_in_7 k_ii_7 rfl (by decide) (fun _ => rfl) rfl (by decide +kernel) hz (Nat.le_of_ble_eq_true rfl) (Nat.le_of_ble_eq_true rfl) d_R_init_5 rfl (fun r1 => ?_)
  replace hz := zHz_s hz
  refine v_dup cx d_R_init_8 rfl ?_
  refine k_call (st := [.ref r1, .ref q0]) cx (s_T_init (Ω := Ω) (q0 := q0) (q1 := r1) hz) k_yk_T_init k_il_R_11 rfl rfl (Nat.le_of_ble_eq_true rfl) ⟨(Nat.le_of_ble_eq_true rfl), (Nat.le_of_ble_eq_true rfl)⟩ ⟨(Nat.le_of_ble_eq_true rfl), (Nat.le_of_ble_eq_true rfl)⟩ d_R_init_9 (fun v2 σx hsx => ?_)
  subst hsx
  replace hz := kz_T_init (m := 3) (by decide) (zHz_up hz (by decide))
  refine k_putr (ad := zAd [q0, r1, (v2 0)]) (Ls := kL_4) (Ls' := kL_5) (r := 1) cx hin 0 0 tyX10 tyX10_ok nmX10 rfl (by decide) rfl (by decide) inX10 fl_R_12 rfl rfl (tyX10_ok 0 (by decide)) rfl rfl d_R_init_12 rfl ?_
  refine v_aload_n cx 0 d_R_init_15 rfl rfl ?_
  refine k_new (qs := [q0, r1, (v2 0)]) (Ls := kL_5) (Ls' := kL_6) (fv := [.null, .null]) cx tyX2 tyX2_ok inX2 k_cl_R_16 k_in_2 k_ii_2 rfl (by decide) (fun _ => rfl) rfl (by decide +kernel) hz (Nat.le_of_ble_eq_true rfl) (Nat.le_of_ble_eq_true rfl) d_R_init_16 rfl (fun r3 => ?_)
  replace hz := zHz_s hz
  refine v_dup cx d_R_init_19 rfl ?_
  refine k_call (st := [.ref r3, .ref q0]) cx (s_L_init (Ω := Ω) (q0 := q0) (q1 := r1) (q2 := (v2 0)) (q3 := r3) hz) k_yk_L_init k_il_R_18 rfl rfl (Nat.le_of_ble_eq_true rfl) ⟨(Nat.le_of_ble_eq_true rfl), (Nat.le_of_ble_eq_true rfl)⟩ ⟨(Nat.le_of_ble_eq_true rfl), (Nat.le_of_ble_eq_true rfl)⟩ d_R_init_20 (fun v4 σx hsx => ?_)
  subst hsx
  replace hz := kz_L_init (m := 6) (by decide) (zHz_up hz (by decide))
  refine k_putr (ad := zAd [q0, r1, (v2 0), r3, (v4 0), (v4 1)]) (Ls := kL_10) (Ls' := kL_11) (r := 3) cx hin 0 1 tyX10 tyX10_ok nmX10 rfl (by decide) rfl (by decide) inX10 fl_R_19 rfl rfl (tyX10_ok 1 (by decide)) rfl rfl d_R_init_23 rfl ?_
  refine v_aload_n cx 0 d_R_init_26 rfl rfl ?_
  refine k_new (qs := [q0, r1, (v2 0), r3, (v4 0), (v4 1)]) (Ls := kL_11) (Ls' := kL_12) (fv := [.null, .null, .null, .int 0, .int 0, .int 0]) cx tyX8 tyX8_ok inX8 k_cl_R_23 k_in_8 k_ii_8 rfl (by decide) (fun _ => rfl) rfl (by decide +kernel) hz (Nat.le_of_ble_eq_true rfl) (Nat.le_of_ble_eq_true rfl) d_R_init_27 rfl (fun r6 => ?_)
  replace hz := zHz_s hz
  refine v_dup cx d_R_init_30 rfl ?_
  refine v_aload_n cx 0 d_R_init_31 rfl rfl ?_
  refine v_getr (o := 0) (r := 1) (ad := zAd [q0, r1, (v2 0), r3, (v4 0), (v4 1), r6]) (Ls := kL_12) cx 0 rfl rfl rfl (by decide) inX10 fl_R_12 d_R_init_32 ?_
  refine k_call (st := [.ref r6, .ref q0]) cx (s_X_init (Ω := Ω) (q0 := q0) (q1 := r1) (q2 := (v2 0)) (q3 := r3) (q4 := (v4 0)) (q5 := (v4 1)) (q6 := r6) hz) k_yk_X_init k_il_R_25 rfl rfl (Nat.le_of_ble_eq_true rfl) ⟨(Nat.le_of_ble_eq_true rfl), (Nat.le_of_ble_eq_true rfl)⟩ ⟨(Nat.le_of_ble_eq_true rfl), (Nat.le_of_ble_eq_true rfl)⟩ d_R_init_35 (fun v7 σx hsx => ?_)
  subst hsx
  replace hz := kz_X_init (m := 9) (by decide) (zHz_up hz (by decide))
  refine k_putr (ad := zAd [q0, r1, (v2 0), r3, (v4 0), (v4 1), r6, (v7 0), (v7 1)]) (Ls := kL_17) (Ls' := kL_18) (r := 6) cx hin 0 2 tyX10 tyX10_ok nmX10 rfl (by decide) rfl (by decide) inX10 fl_R_28 rfl rfl (tyX10_ok 2 (by decide)) rfl rfl d_R_init_38 rfl ?_
  refine v_aload_n cx 0 d_R_init_41 rfl rfl ?_
  refine k_new (qs := [q0, r1, (v2 0), r3, (v4 0), (v4 1), r6, (v7 0), (v7 1)]) (Ls := kL_18) (Ls' := kL_19) (fv := [.null, .int 0, .int 0]) cx tyX3 tyX3_ok inX3 k_cl_R_32 k_in_3 k_ii_3 rfl (by decide) (fun _ => rfl) rfl (by decide +kernel) hz (Nat.le_of_ble_eq_true rfl) (Nat.le_of_ble_eq_true rfl) d_R_init_42 rfl (fun r9 => ?_)
  replace hz := zHz_s hz
  refine v_dup cx d_R_init_45 rfl ?_
  refine k_call (st := [.ref r9, .ref q0]) cx (s_P_init (Ω := Ω) (q0 := q0) (q1 := r1) (q2 := (v2 0)) (q3 := r3) (q4 := (v4 0)) (q5 := (v4 1)) (q6 := r6) (q7 := (v7 0)) (q8 := (v7 1)) (q9 := r9) hz) k_yk_P_init k_il_R_34 rfl rfl (Nat.le_of_ble_eq_true rfl) ⟨(Nat.le_of_ble_eq_true rfl), (Nat.le_of_ble_eq_true rfl)⟩ ⟨(Nat.le_of_ble_eq_true rfl), (Nat.le_of_ble_eq_true rfl)⟩ d_R_init_46 (fun v10 σx hsx => ?_)
  subst hsx
  replace hz := kz_P_init (m := 11) (by decide) (zHz_up hz (by decide))
  refine k_putr (ad := zAd [q0, r1, (v2 0), r3, (v4 0), (v4 1), r6, (v7 0), (v7 1), r9, (v10 0)]) (Ls := kL_21) (Ls' := kL_22) (r := 9) cx hin 0 3 tyX10 tyX10_ok nmX10 rfl (by decide) rfl (by decide) inX10 fl_R_35 rfl rfl (tyX10_ok 3 (by decide)) rfl rfl d_R_init_49 rfl ?_
  refine v_aload_n cx 0 d_R_init_52 rfl rfl ?_
  refine k_new (qs := [q0, r1, (v2 0), r3, (v4 0), (v4 1), r6, (v7 0), (v7 1), r9, (v10 0)]) (Ls := kL_22) (Ls' := kL_23) (fv := [.null, .null, .null, .null]) cx tyX5 tyX5_ok inX5 k_cl_R_39 k_in_5 k_ii_5 rfl (by decide) (fun _ => rfl) rfl (by decide +kernel) hz (Nat.le_of_ble_eq_true rfl) (Nat.le_of_ble_eq_true rfl) d_R_init_53 rfl (fun r11 => ?_)
  replace hz := zHz_s hz
  refine v_dup cx d_R_init_56 rfl ?_
  refine v_aload_n cx 0 d_R_init_57 rfl rfl ?_
  refine v_getr (o := 0) (r := 3) (ad := zAd [q0, r1, (v2 0), r3, (v4 0), (v4 1), r6, (v7 0), (v7 1), r9, (v10 0), r11]) (Ls := kL_23) cx 1 rfl rfl rfl (by decide) inX10 fl_R_19 d_R_init_58 ?_
  refine k_call (st := [.ref r11, .ref q0]) cx (s_S_init (Ω := Ω) (q0 := q0) (q1 := r1) (q2 := (v2 0)) (q3 := r3) (q4 := (v4 0)) (q5 := (v4 1)) (q6 := r6) (q7 := (v7 0)) (q8 := (v7 1)) (q9 := r9) (q10 := (v10 0)) (q11 := r11) hz) k_yk_S_init k_il_R_41 rfl rfl (Nat.le_of_ble_eq_true rfl) ⟨(Nat.le_of_ble_eq_true rfl), (Nat.le_of_ble_eq_true rfl)⟩ ⟨(Nat.le_of_ble_eq_true rfl), (Nat.le_of_ble_eq_true rfl)⟩ d_R_init_61 (fun v12 σx hsx => ?_)
  subst hsx
  replace hz := kz_S_init (m := 15) (by decide) (zHz_up hz (by decide))
  refine k_putr (ad := zAd [q0, r1, (v2 0), r3, (v4 0), (v4 1), r6, (v7 0), (v7 1), r9, (v10 0), r11, (v12 0), (v12 1), (v12 2)]) (Ls := kL_30) (Ls' := kL_31) (r := 11) cx hin 0 4 tyX10 tyX10_ok nmX10 rfl (by decide) rfl (by decide) inX10 fl_R_44 rfl rfl (tyX10_ok 4 (by decide)) rfl rfl d_R_init_64 rfl ?_
  refine v_aload_n cx 0 d_R_init_67 rfl rfl ?_
  refine k_new (qs := [q0, r1, (v2 0), r3, (v4 0), (v4 1), r6, (v7 0), (v7 1), r9, (v10 0), r11, (v12 0), (v12 1), (v12 2)]) (Ls := kL_31) (Ls' := kL_32) (fv := [.null, .null, .null, .null, .null, .null, .null, .null, .null, .null, .null, .int 0, .int 0, .int 0]) cx tyX9 tyX9_ok inX9 k_cl_R_48 k_in_9 k_ii_9 rfl (by decide) (fun _ => rfl) rfl (by decide +kernel) hz (Nat.le_of_ble_eq_true rfl) (Nat.le_of_ble_eq_true rfl) d_R_init_68 rfl (fun r15 => ?_)
  replace hz := zHz_s hz
  refine v_dup cx d_R_init_71 rfl ?_
  refine v_aload_n cx 0 d_R_init_72 rfl rfl ?_
  refine v_getr (o := 0) (r := 3) (ad := zAd [q0, r1, (v2 0), r3, (v4 0), (v4 1), r6, (v7 0), (v7 1), r9, (v10 0), r11, (v12 0), (v12 1), (v12 2), r15]) (Ls := kL_32) cx 1 rfl rfl rfl (by decide) inX10 fl_R_19 d_R_init_73 ?_
  refine v_aload_n cx 0 d_R_init_76 rfl rfl ?_
  refine v_getr (o := 0) (r := 11) (ad := zAd [q0, r1, (v2 0), r3, (v4 0), (v4 1), r6, (v7 0), (v7 1), r9, (v10 0), r11, (v12 0), (v12 1), (v12 2), r15]) (Ls := kL_32) cx 4 rfl rfl rfl (by decide) inX10 fl_R_44 d_R_init_77 ?_
  refine k_call (st := [.ref r15, .ref q0]) cx (s_W_init (Ω := Ω) (q0 := q0) (q1 := r1) (q2 := (v2 0)) (q3 := r3) (q4 := (v4 0)) (q5 := (v4 1)) (q6 := r6) (q7 := (v7 0)) (q8 := (v7 1)) (q9 := r9) (q10 := (v10 0)) (q11 := r11) (q12 := (v12 0)) (q13 := (v12 1)) (q14 := (v12 2)) (q15 := r15) hz) k_yk_W_init k_il_R_50 rfl rfl (Nat.le_of_ble_eq_true rfl) ⟨(Nat.le_of_ble_eq_true rfl), (Nat.le_of_ble_eq_true rfl)⟩ ⟨(Nat.le_of_ble_eq_true rfl), (Nat.le_of_ble_eq_true rfl)⟩ d_R_init_80 (fun v16 σx hsx => ?_)
  subst hsx
  replace hz := kz_W_init (m := 28) (by decide) (zHz_up hz (by decide))
  refine k_putr (ad := zAd [q0, r1, (v2 0), r3, (v4 0), (v4 1), r6, (v7 0), (v7 1), r9, (v10 0), r11, (v12 0), (v12 1), (v12 2), r15, (v16 0), (v16 1), (v16 2), (v16 3), (v16 4), (v16 5), (v16 6), (v16 7), (v16 8), (v16 9), (v16 10), (v16 11)]) (Ls := kL_58) (Ls' := kL_59) (r := 15) cx hin 0 5 tyX10 tyX10_ok nmX10 rfl (by decide) rfl (by decide) inX10 fl_R_53 rfl rfl (tyX10_ok 5 (by decide)) rfl rfl d_R_init_83 rfl ?_
  refine v_aload_n cx 0 d_R_init_86 rfl rfl ?_
  refine k_new (qs := [q0, r1, (v2 0), r3, (v4 0), (v4 1), r6, (v7 0), (v7 1), r9, (v10 0), r11, (v12 0), (v12 1), (v12 2), r15, (v16 0), (v16 1), (v16 2), (v16 3), (v16 4), (v16 5), (v16 6), (v16 7), (v16 8), (v16 9), (v16 10), (v16 11)]) (Ls := kL_59) (Ls' := kL_60) (fv := [.null, .null, .null, .null, .null, .null, .null, .null, .int 0, .int 0]) cx tyX4 tyX4_ok inX4 k_cl_R_57 k_in_4 k_ii_4 rfl (by decide) (fun _ => rfl) rfl (by decide +kernel) hz (Nat.le_of_ble_eq_true rfl) (Nat.le_of_ble_eq_true rfl) d_R_init_87 rfl (fun r28 => ?_)
  replace hz := zHz_s hz
  refine v_dup cx d_R_init_90 rfl ?_
  refine v_aload_n cx 0 d_R_init_91 rfl rfl ?_
  refine v_getr (o := 0) (r := 3) (ad := zAd [q0, r1, (v2 0), r3, (v4 0), (v4 1), r6, (v7 0), (v7 1), r9, (v10 0), r11, (v12 0), (v12 1), (v12 2), r15, (v16 0), (v16 1), (v16 2), (v16 3), (v16 4), (v16 5), (v16 6), (v16 7), (v16 8), (v16 9), (v16 10), (v16 11), r28]) (Ls := kL_60) cx 1 rfl rfl rfl (by decide) inX10 fl_R_19 d_R_init_92 ?_
  refine v_aload_n cx 0 d_R_init_95 rfl rfl ?_
  refine v_getr (o := 0) (r := 15) (ad := zAd [q0, r1, (v2 0), r3, (v4 0), (v4 1), r6, (v7 0), (v7 1), r9, (v10 0), r11, (v12 0), (v12 1), (v12 2), r15, (v16 0), (v16 1), (v16 2), (v16 3), (v16 4), (v16 5), (v16 6), (v16 7), (v16 8), (v16 9), (v16 10), (v16 11), r28]) (Ls := kL_60) cx 5 rfl rfl rfl (by decide) inX10 fl_R_53 d_R_init_96 ?_
  refine k_call (st := [.ref r28, .ref q0]) cx (s_N_init (Ω := Ω) (q0 := q0) (q1 := r1) (q2 := (v2 0)) (q3 := r3) (q4 := (v4 0)) (q5 := (v4 1)) (q6 := r6) (q7 := (v7 0)) (q8 := (v7 1)) (q9 := r9) (q10 := (v10 0)) (q11 := r11) (q12 := (v12 0)) (q13 := (v12 1)) (q14 := (v12 2)) (q15 := r15) (q16 := (v16 0)) (q17 := (v16 1)) (q18 := (v16 2)) (q19 := (v16 3)) (q20 := (v16 4)) (q21 := (v16 5)) (q22 := (v16 6)) (q23 := (v16 7)) (q24 := (v16 8)) (q25 := (v16 9)) (q26 := (v16 10)) (q27 := (v16 11)) (q28 := r28) hz) k_yk_N_init k_il_R_59 rfl rfl (Nat.le_of_ble_eq_true rfl) ⟨(Nat.le_of_ble_eq_true rfl), (Nat.le_of_ble_eq_true rfl)⟩ ⟨(Nat.le_of_ble_eq_true rfl), (Nat.le_of_ble_eq_true rfl)⟩ d_R_init_99 (fun v29 σx hsx => ?_)
  subst hsx
  replace hz := kz_N_init (m := 35) (by decide) (zHz_up hz (by decide))
  refine k_putr (ad := zAd [q0, r1, (v2 0), r3, (v4 0), (v4 1), r6, (v7 0), (v7 1), r9, (v10 0), r11, (v12 0), (v12 1), (v12 2), r15, (v16 0), (v16 1), (v16 2), (v16 3), (v16 4), (v16 5), (v16 6), (v16 7), (v16 8), (v16 9), (v16 10), (v16 11), r28, (v29 0), (v29 1), (v29 2), (v29 3), (v29 4), (v29 5)]) (Ls := kL_74) (Ls' := kL_75) (r := 28) cx hin 0 6 tyX10 tyX10_ok nmX10 rfl (by decide) rfl (by decide) inX10 fl_R_62 rfl rfl (tyX10_ok 6 (by decide)) rfl rfl d_R_init_102 rfl ?_
  refine v_aload_n cx 0 d_R_init_105 rfl rfl ?_
  refine k_new (qs := [q0, r1, (v2 0), r3, (v4 0), (v4 1), r6, (v7 0), (v7 1), r9, (v10 0), r11, (v12 0), (v12 1), (v12 2), r15, (v16 0), (v16 1), (v16 2), (v16 3), (v16 4), (v16 5), (v16 6), (v16 7), (v16 8), (v16 9), (v16 10), (v16 11), r28, (v29 0), (v29 1), (v29 2), (v29 3), (v29 4), (v29 5)]) (Ls := kL_75) (Ls' := kL_76) (fv := [.null, .null, .null, .int 0, .int 0, .int 0, .int 0, .int 0]) cx tyX0 tyX0_ok inX0 k_cl_R_66 k_in_0 k_ii_0 rfl (by decide) (fun _ => rfl) rfl (by decide +kernel) hz (Nat.le_of_ble_eq_true rfl) (Nat.le_of_ble_eq_true rfl) d_R_init_106 rfl (fun r35 => ?_)
  replace hz := zHz_s hz
  refine v_dup cx d_R_init_109 rfl ?_
  refine v_aload_n cx 0 d_R_init_110 rfl rfl ?_
  refine v_getr (o := 0) (r := 3) (ad := zAd [q0, r1, (v2 0), r3, (v4 0), (v4 1), r6, (v7 0), (v7 1), r9, (v10 0), r11, (v12 0), (v12 1), (v12 2), r15, (v16 0), (v16 1), (v16 2), (v16 3), (v16 4), (v16 5), (v16 6), (v16 7), (v16 8), (v16 9), (v16 10), (v16 11), r28, (v29 0), (v29 1), (v29 2), (v29 3), (v29 4), (v29 5), r35]) (Ls := kL_76) cx 1 rfl rfl rfl (by decide) inX10 fl_R_19 d_R_init_111 ?_
  refine k_call (st := [.ref r35, .ref q0]) cx (s_G_init (Ω := Ω) (q0 := q0) (q1 := r1) (q2 := (v2 0)) (q3 := r3) (q4 := (v4 0)) (q5 := (v4 1)) (q6 := r6) (q7 := (v7 0)) (q8 := (v7 1)) (q9 := r9) (q10 := (v10 0)) (q11 := r11) (q12 := (v12 0)) (q13 := (v12 1)) (q14 := (v12 2)) (q15 := r15) (q16 := (v16 0)) (q17 := (v16 1)) (q18 := (v16 2)) (q19 := (v16 3)) (q20 := (v16 4)) (q21 := (v16 5)) (q22 := (v16 6)) (q23 := (v16 7)) (q24 := (v16 8)) (q25 := (v16 9)) (q26 := (v16 10)) (q27 := (v16 11)) (q28 := r28) (q29 := (v29 0)) (q30 := (v29 1)) (q31 := (v29 2)) (q32 := (v29 3)) (q33 := (v29 4)) (q34 := (v29 5)) (q35 := r35) hz) k_yk_G_init k_il_R_68 rfl rfl (Nat.le_of_ble_eq_true rfl) ⟨(Nat.le_of_ble_eq_true rfl), (Nat.le_of_ble_eq_true rfl)⟩ ⟨(Nat.le_of_ble_eq_true rfl), (Nat.le_of_ble_eq_true rfl)⟩ d_R_init_114 (fun v36 σx hsx => ?_)
  subst hsx
  replace hz := kz_G_init (m := 38) (by decide) (zHz_up hz (by decide))
  refine k_putr (ad := zAd [q0, r1, (v2 0), r3, (v4 0), (v4 1), r6, (v7 0), (v7 1), r9, (v10 0), r11, (v12 0), (v12 1), (v12 2), r15, (v16 0), (v16 1), (v16 2), (v16 3), (v16 4), (v16 5), (v16 6), (v16 7), (v16 8), (v16 9), (v16 10), (v16 11), r28, (v29 0), (v29 1), (v29 2), (v29 3), (v29 4), (v29 5), r35, (v36 0), (v36 1)]) (Ls := kL_81) (Ls' := kL_82) (r := 35) cx hin 0 7 tyX10 tyX10_ok nmX10 rfl (by decide) rfl (by decide) inX10 fl_R_69 rfl rfl (tyX10_ok 7 (by decide)) rfl rfl d_R_init_117 rfl ?_
  refine v_aload_n cx 0 d_R_init_120 rfl rfl ?_
  refine k_new (qs := [q0, r1, (v2 0), r3, (v4 0), (v4 1), r6, (v7 0), (v7 1), r9, (v10 0), r11, (v12 0), (v12 1), (v12 2), r15, (v16 0), (v16 1), (v16 2), (v16 3), (v16 4), (v16 5), (v16 6), (v16 7), (v16 8), (v16 9), (v16 10), (v16 11), r28, (v29 0), (v29 1), (v29 2), (v29 3), (v29 4), (v29 5), r35, (v36 0), (v36 1)]) (Ls := kL_82) (Ls' := kL_83) (fv := [.null, .null, .null, .null]) cx tyX6 tyX6_ok inX6 k_cl_R_73 k_in_6 k_ii_6 rfl (by decide) (fun _ => rfl) rfl (by decide +kernel) hz (Nat.le_of_ble_eq_true rfl) (Nat.le_of_ble_eq_true rfl) d_R_init_121 rfl (fun r38 => ?_)
  replace hz := zHz_s hz
  refine v_dup cx d_R_init_124 rfl ?_
  refine v_aload_n cx 0 d_R_init_125 rfl rfl ?_
  refine v_getr (o := 0) (r := 3) (ad := zAd [q0, r1, (v2 0), r3, (v4 0), (v4 1), r6, (v7 0), (v7 1), r9, (v10 0), r11, (v12 0), (v12 1), (v12 2), r15, (v16 0), (v16 1), (v16 2), (v16 3), (v16 4), (v16 5), (v16 6), (v16 7), (v16 8), (v16 9), (v16 10), (v16 11), r28, (v29 0), (v29 1), (v29 2), (v29 3), (v29 4), (v29 5), r35, (v36 0), (v36 1), r38]) (Ls := kL_83) cx 1 rfl rfl rfl (by decide) inX10 fl_R_19 d_R_init_126 ?_
  refine v_aload_n cx 0 d_R_init_129 rfl rfl ?_
  refine v_getr (o := 0) (r := 35) (ad := zAd [q0, r1, (v2 0), r3, (v4 0), (v4 1), r6, (v7 0), (v7 1), r9, (v10 0), r11, (v12 0), (v12 1), (v12 2), r15, (v16 0), (v16 1), (v16 2), (v16 3), (v16 4), (v16 5), (v16 6), (v16 7), (v16 8), (v16 9), (v16 10), (v16 11), r28, (v29 0), (v29 1), (v29 2), (v29 3), (v29 4), (v29 5), r35, (v36 0), (v36 1), r38]) (Ls := kL_83) cx 7 rfl rfl rfl (by decide) inX10 fl_R_69 d_R_init_130 ?_
  refine v_aload_n cx 0 d_R_init_133 rfl rfl ?_
  refine v_getr (o := 0) (r := 11) (ad := zAd [q0, r1, (v2 0), r3, (v4 0), (v4 1), r6, (v7 0), (v7 1), r9, (v10 0), r11, (v12 0), (v12 1), (v12 2), r15, (v16 0), (v16 1), (v16 2), (v16 3), (v16 4), (v16 5), (v16 6), (v16 7), (v16 8), (v16 9), (v16 10), (v16 11), r28, (v29 0), (v29 1), (v29 2), (v29 3), (v29 4), (v29 5), r35, (v36 0), (v36 1), r38]) (Ls := kL_83) cx 4 rfl rfl rfl (by decide) inX10 fl_R_44 d_R_init_134 ?_
  refine k_call (st := [.ref r38, .ref q0]) cx (s_U_init (Ω := Ω) (q0 := q0) (q1 := r1) (q2 := (v2 0)) (q3 := r3) (q4 := (v4 0)) (q5 := (v4 1)) (q6 := r6) (q7 := (v7 0)) (q8 := (v7 1)) (q9 := r9) (q10 := (v10 0)) (q11 := r11) (q12 := (v12 0)) (q13 := (v12 1)) (q14 := (v12 2)) (q15 := r15) (q16 := (v16 0)) (q17 := (v16 1)) (q18 := (v16 2)) (q19 := (v16 3)) (q20 := (v16 4)) (q21 := (v16 5)) (q22 := (v16 6)) (q23 := (v16 7)) (q24 := (v16 8)) (q25 := (v16 9)) (q26 := (v16 10)) (q27 := (v16 11)) (q28 := r28) (q29 := (v29 0)) (q30 := (v29 1)) (q31 := (v29 2)) (q32 := (v29 3)) (q33 := (v29 4)) (q34 := (v29 5)) (q35 := r35) (q36 := (v36 0)) (q37 := (v36 1)) (q38 := r38) hz) k_yk_U_init k_il_R_75 rfl rfl (Nat.le_of_ble_eq_true rfl) ⟨(Nat.le_of_ble_eq_true rfl), (Nat.le_of_ble_eq_true rfl)⟩ ⟨(Nat.le_of_ble_eq_true rfl), (Nat.le_of_ble_eq_true rfl)⟩ d_R_init_137 (fun v39 σx hsx => ?_)
  subst hsx
  replace hz := kz_U_init (m := 40) (by decide) (zHz_up hz (by decide))
  refine k_putr (ad := zAd [q0, r1, (v2 0), r3, (v4 0), (v4 1), r6, (v7 0), (v7 1), r9, (v10 0), r11, (v12 0), (v12 1), (v12 2), r15, (v16 0), (v16 1), (v16 2), (v16 3), (v16 4), (v16 5), (v16 6), (v16 7), (v16 8), (v16 9), (v16 10), (v16 11), r28, (v29 0), (v29 1), (v29 2), (v29 3), (v29 4), (v29 5), r35, (v36 0), (v36 1), r38, (v39 0)]) (Ls := kL_88) (Ls' := kL_89) (r := 38) cx hin 0 8 tyX10 tyX10_ok nmX10 rfl (by decide) rfl (by decide) inX10 fl_R_78 rfl rfl (tyX10_ok 8 (by decide)) rfl rfl d_R_init_140 rfl ?_
  refine v_aload_n cx 0 d_R_init_143 rfl rfl ?_
  refine v_sipush cx (by decide) d_R_init_144 ?_
  refine k_newi (qs := [q0, r1, (v2 0), r3, (v4 0), (v4 1), r6, (v7 0), (v7 1), r9, (v10 0), r11, (v12 0), (v12 1), (v12 2), r15, (v16 0), (v16 1), (v16 2), (v16 3), (v16 4), (v16 5), (v16 6), (v16 7), (v16 8), (v16 9), (v16 10), (v16 11), r28, (v29 0), (v29 1), (v29 2), (v29 3), (v29 4), (v29 5), r35, (v36 0), (v36 1), r38, (v39 0)]) (Ls := kL_89) (Ls' := kL_90) (N := 499) cx rfl rfl (by decide +kernel) hz k_aci (Nat.le_of_ble_eq_true rfl) (Nat.le_of_ble_eq_true rfl) (Nat.le_of_ble_eq_true rfl) d_R_init_147 rfl (fun r40 => ?_)
  replace hz := zHz_s hz
  refine k_putr (ad := zAd [q0, r1, (v2 0), r3, (v4 0), (v4 1), r6, (v7 0), (v7 1), r9, (v10 0), r11, (v12 0), (v12 1), (v12 2), r15, (v16 0), (v16 1), (v16 2), (v16 3), (v16 4), (v16 5), (v16 6), (v16 7), (v16 8), (v16 9), (v16 10), (v16 11), r28, (v29 0), (v29 1), (v29 2), (v29 3), (v29 4), (v29 5), r35, (v36 0), (v36 1), r38, (v39 0), r40]) (Ls := kL_90) (Ls' := kL_91) (r := 40) cx hin 0 9 tyX10 tyX10_ok nmX10 rfl (by decide) rfl (by decide) inX10 fl_R_82 rfl rfl (tyX10_ok 9 (by decide)) rfl rfl d_R_init_149 rfl ?_
  refine v_aload_n cx 0 d_R_init_152 rfl rfl ?_
  refine v_iconst cx d_R_init_153 ?_
  refine v_puti (o := 0) (a := 0) (ad := zAd [q0, r1, (v2 0), r3, (v4 0), (v4 1), r6, (v7 0), (v7 1), r9, (v10 0), r11, (v12 0), (v12 1), (v12 2), r15, (v16 0), (v16 1), (v16 2), (v16 3), (v16 4), (v16 5), (v16 6), (v16 7), (v16 8), (v16 9), (v16 10), (v16 11), r28, (v29 0), (v29 1), (v29 2), (v29 3), (v29 4), (v29 5), r35, (v36 0), (v36 1), r38, (v39 0), r40]) (Ls := kL_91) cx 10 tyX10 tyX10_ok nmX10 rfl rfl rfl (by decide) inX10 fl_R_86 rfl (tyX10_ok 10 (by decide)) rfl rfl ⟨by decide, by decide⟩ d_R_init_154 ?_
  replace hz := zHz_U (u := 0) (k := 10) (v := 0) hz (by decide)
  refine v_aload_n cx 0 d_R_init_157 rfl rfl ?_
  refine v_iconst cx d_R_init_158 ?_
  refine v_puti (o := 0) (a := (-1)) (ad := zAd [q0, r1, (v2 0), r3, (v4 0), (v4 1), r6, (v7 0), (v7 1), r9, (v10 0), r11, (v12 0), (v12 1), (v12 2), r15, (v16 0), (v16 1), (v16 2), (v16 3), (v16 4), (v16 5), (v16 6), (v16 7), (v16 8), (v16 9), (v16 10), (v16 11), r28, (v29 0), (v29 1), (v29 2), (v29 3), (v29 4), (v29 5), r35, (v36 0), (v36 1), r38, (v39 0), r40]) (Ls := kL_91) cx 11 tyX10 tyX10_ok nmX10 rfl rfl rfl (by decide) inX10 fl_R_90 rfl (tyX10_ok 11 (by decide)) rfl rfl ⟨by decide, by decide⟩ d_R_init_159 ?_
  replace hz := zHz_U (u := 0) (k := 11) (v := (-1)) hz (by decide)
  exact rt _ _ _ _ _ (zAd [r1, (v2 0), r3, (v4 0), (v4 1), r6, (v7 0), (v7 1), r9, (v10 0), r11, (v12 0), (v12 1), (v12 2), r15, (v16 0), (v16 1), (v16 2), (v16 3), (v16 4), (v16 5), (v16 6), (v16 7), (v16 8), (v16 9), (v16 10), (v16 11), r28, (v29 0), (v29 1), (v29 2), (v29 3), (v29 4), (v29 5), r35, (v36 0), (v36 1), r38, (v39 0), r40]) (Nat.le_of_ble_eq_true rfl) (Nat.le_of_ble_eq_true rfl) d_R_init_162 rfl
def kL_92 : List zL := kL_91 ++ [zOb 11 [none, some none, some none, none, some none, none, some none, some none, some none, some none, some none, none, none, none, none, some none, some none, some none, some none, some none, none, some none, some none, some none, none, some none, none, some none, none, none, some none, some none, some none, some none, none]]
theorem k_ol_M : Cond.methodLink "GentleRoadModel" 1 Lib.objectInit ∈ zT := ztc8 0 (by decide +kernel) rfl
def kL_93 : List zL := kL_92 ++ [zAr 1 499]
def kL_94 : List zL := kL_93.set 41 (zOb 11 [none, some (some 42), some none, none, some none, none, some none, some none, some none, some none, some none, none, none, none, none, some none, some none, some none, some none, some none, none, some none, some none, some none, none, some none, none, some none, none, none, some none, some none, some none, some none, none])
def kL_95 : List zL := kL_94 ++ [zAr 1 3992]
def kL_96 : List zL := kL_95.set 41 (zOb 11 [none, some (some 42), some (some 43), none, some none, none, some none, some none, some none, some none, some none, none, none, none, none, some none, some none, some none, some none, some none, none, some none, some none, some none, none, some none, none, some none, none, none, some none, some none, some none, some none, none])
def kL_97 : List zL := kL_96 ++ [zAr 1 499]
def kL_98 : List zL := kL_97.set 41 (zOb 11 [none, some (some 42), some (some 43), none, some (some 44), none, some none, some none, some none, some none, some none, none, none, none, none, some none, some none, some none, some none, some none, none, some none, some none, some none, none, some none, none, some none, none, none, some none, some none, some none, some none, none])
def kL_99 : List zL := kL_98 ++ [zAr 1 11]
def kL_100 : List zL := kL_99.set 41 (zOb 11 [none, some (some 42), some (some 43), none, some (some 44), none, some (some 45), some none, some none, some none, some none, none, none, none, none, some none, some none, some none, some none, some none, none, some none, some none, some none, none, some none, none, some none, none, none, some none, some none, some none, some none, none])
def kL_101 : List zL := kL_100 ++ [zAr 1 11]
def kL_102 : List zL := kL_101.set 41 (zOb 11 [none, some (some 42), some (some 43), none, some (some 44), none, some (some 45), some (some 46), some none, some none, some none, none, none, none, none, some none, some none, some none, some none, some none, none, some none, some none, some none, none, some none, none, some none, none, none, some none, some none, some none, some none, none])
def kL_103 : List zL := kL_102 ++ [zAr 1 8]
def kL_104 : List zL := kL_103.set 41 (zOb 11 [none, some (some 42), some (some 43), none, some (some 44), none, some (some 45), some (some 46), some (some 47), some none, some none, none, none, none, none, some none, some none, some none, some none, some none, none, some none, some none, some none, none, some none, none, some none, none, none, some none, some none, some none, some none, none])
def kL_105 : List zL := kL_104 ++ [zAr 1 8]
def kL_106 : List zL := kL_105.set 41 (zOb 11 [none, some (some 42), some (some 43), none, some (some 44), none, some (some 45), some (some 46), some (some 47), some (some 48), some none, none, none, none, none, some none, some none, some none, some none, some none, none, some none, some none, some none, none, some none, none, some none, none, none, some none, some none, some none, some none, none])
def kL_107 : List zL := kL_106 ++ [zAr 1 400]
def kL_108 : List zL := kL_107.set 41 (zOb 11 [none, some (some 42), some (some 43), none, some (some 44), none, some (some 45), some (some 46), some (some 47), some (some 48), some (some 49), none, none, none, none, some none, some none, some none, some none, some none, none, some none, some none, some none, none, some none, none, some none, none, none, some none, some none, some none, some none, none])
def kL_109 : List zL := kL_108 ++ [zAr 1 499]
def kL_110 : List zL := kL_109.set 41 (zOb 11 [none, some (some 42), some (some 43), none, some (some 44), none, some (some 45), some (some 46), some (some 47), some (some 48), some (some 49), none, none, none, none, some (some 50), some none, some none, some none, some none, none, some none, some none, some none, none, some none, none, some none, none, none, some none, some none, some none, some none, none])
def kL_111 : List zL := kL_110 ++ [zAr 1 648]
def kL_112 : List zL := kL_111.set 41 (zOb 11 [none, some (some 42), some (some 43), none, some (some 44), none, some (some 45), some (some 46), some (some 47), some (some 48), some (some 49), none, none, none, none, some (some 50), some (some 51), some none, some none, some none, none, some none, some none, some none, none, some none, none, some none, none, none, some none, some none, some none, some none, none])
def kL_113 : List zL := kL_112 ++ [zAr 1 648]
def kL_114 : List zL := kL_113.set 41 (zOb 11 [none, some (some 42), some (some 43), none, some (some 44), none, some (some 45), some (some 46), some (some 47), some (some 48), some (some 49), none, none, none, none, some (some 50), some (some 51), some (some 52), some none, some none, none, some none, some none, some none, none, some none, none, some none, none, none, some none, some none, some none, some none, none])
def kL_115 : List zL := kL_114 ++ [zAr 1 2592]
def kL_116 : List zL := kL_115.set 41 (zOb 11 [none, some (some 42), some (some 43), none, some (some 44), none, some (some 45), some (some 46), some (some 47), some (some 48), some (some 49), none, none, none, none, some (some 50), some (some 51), some (some 52), some (some 53), some none, none, some none, some none, some none, none, some none, none, some none, none, none, some none, some none, some none, some none, none])
def kL_117 : List zL := kL_116 ++ [zAr 1 700]
def kL_118 : List zL := kL_117.set 41 (zOb 11 [none, some (some 42), some (some 43), none, some (some 44), none, some (some 45), some (some 46), some (some 47), some (some 48), some (some 49), none, none, none, none, some (some 50), some (some 51), some (some 52), some (some 53), some (some 54), none, some none, some none, some none, none, some none, none, some none, none, none, some none, some none, some none, some none, none])
def kL_119 : List zL := kL_118 ++ [zAr 1 68880]
def kL_120 : List zL := kL_119.set 41 (zOb 11 [none, some (some 42), some (some 43), none, some (some 44), none, some (some 45), some (some 46), some (some 47), some (some 48), some (some 49), none, none, none, none, some (some 50), some (some 51), some (some 52), some (some 53), some (some 54), none, some (some 55), some none, some none, none, some none, none, some none, none, none, some none, some none, some none, some none, none])
def kL_121 : List zL := kL_120 ++ [zAr 1 40]
def kL_122 : List zL := kL_121.set 41 (zOb 11 [none, some (some 42), some (some 43), none, some (some 44), none, some (some 45), some (some 46), some (some 47), some (some 48), some (some 49), none, none, none, none, some (some 50), some (some 51), some (some 52), some (some 53), some (some 54), none, some (some 55), some (some 56), some none, none, some none, none, some none, none, none, some none, some none, some none, some none, none])
def kL_123 : List zL := kL_122 ++ [zAr 1 6]
def kL_124 : List zL := kL_123.set 41 (zOb 11 [none, some (some 42), some (some 43), none, some (some 44), none, some (some 45), some (some 46), some (some 47), some (some 48), some (some 49), none, none, none, none, some (some 50), some (some 51), some (some 52), some (some 53), some (some 54), none, some (some 55), some (some 56), some (some 57), none, some none, none, some none, none, none, some none, some none, some none, some none, none])
def kL_125 : List zL := kL_124 ++ [zAr 1 36]
def kL_126 : List zL := kL_125.set 41 (zOb 11 [none, some (some 42), some (some 43), none, some (some 44), none, some (some 45), some (some 46), some (some 47), some (some 48), some (some 49), none, none, none, none, some (some 50), some (some 51), some (some 52), some (some 53), some (some 54), none, some (some 55), some (some 56), some (some 57), none, some (some 58), none, some none, none, none, some none, some none, some none, some none, none])
def kL_127 : List zL := kL_126 ++ [zAr 1 81]
def kL_128 : List zL := kL_127.set 41 (zOb 11 [none, some (some 42), some (some 43), none, some (some 44), none, some (some 45), some (some 46), some (some 47), some (some 48), some (some 49), none, none, none, none, some (some 50), some (some 51), some (some 52), some (some 53), some (some 54), none, some (some 55), some (some 56), some (some 57), none, some (some 58), none, some (some 59), none, none, some none, some none, some none, some none, none])
def kL_129 : List zL := kL_128 ++ [zAr 1 700]
def kL_130 : List zL := kL_129.set 41 (zOb 11 [none, some (some 42), some (some 43), none, some (some 44), none, some (some 45), some (some 46), some (some 47), some (some 48), some (some 49), none, none, none, none, some (some 50), some (some 51), some (some 52), some (some 53), some (some 54), none, some (some 55), some (some 56), some (some 57), none, some (some 58), none, some (some 59), none, none, some (some 60), some none, some none, some none, none])
def kL_131 : List zL := kL_130 ++ [zAr 1 280]
def kL_132 : List zL := kL_131.set 41 (zOb 11 [none, some (some 42), some (some 43), none, some (some 44), none, some (some 45), some (some 46), some (some 47), some (some 48), some (some 49), none, none, none, none, some (some 50), some (some 51), some (some 52), some (some 53), some (some 54), none, some (some 55), some (some 56), some (some 57), none, some (some 58), none, some (some 59), none, none, some (some 60), some (some 61), some none, some none, none])
def kL_133 : List zL := kL_132 ++ [zAr 1 81]
def kL_134 : List zL := kL_133.set 41 (zOb 11 [none, some (some 42), some (some 43), none, some (some 44), none, some (some 45), some (some 46), some (some 47), some (some 48), some (some 49), none, none, none, none, some (some 50), some (some 51), some (some 52), some (some 53), some (some 54), none, some (some 55), some (some 56), some (some 57), none, some (some 58), none, some (some 59), none, none, some (some 60), some (some 61), some (some 62), some none, none])
def kL_135 : List zL := kL_134 ++ [zAr 1 81]
def kL_136 : List zL := kL_135.set 41 (zOb 11 [none, some (some 42), some (some 43), none, some (some 44), none, some (some 45), some (some 46), some (some 47), some (some 48), some (some 49), none, none, none, none, some (some 50), some (some 51), some (some 52), some (some 53), some (some 54), none, some (some 55), some (some 56), some (some 57), none, some (some 58), none, some (some 59), none, none, some (some 60), some (some 61), some (some 62), some (some 63), none])
def kS_M_init (σ : zS) : zS := zU (zU (zU (zU (zU (zU (zU (zU (zU (zU (zU (zU (zU (zU (zU (zU (zU (zU (zU (zU (zU (zU (zU (zU (zU (zU (zU (zU (zU (zU (zU (zU (zU (zU (zU (zU (zU (zU (zU (zU (zU (zU (zU (zU (zU (zU (zU (zU (zU (zU (zU (zU (σ) 45 0 20) 45 1 1) 45 2 2) 45 3 2) 45 4 1) 45 5 20) 45 6 50) 45 7 1) 45 8 1) 45 9 1) 45 10 5) 46 0 99) 46 1 4) 46 2 99) 46 3 9) 46 4 9) 46 5 99) 46 6 99) 46 7 3) 46 8 9) 46 9 9) 46 10 30) 47 0 (-1)) 47 1 (-1)) 47 2 0) 47 3 1) 47 4 1) 47 5 1) 47 6 0) 47 7 (-1)) 48 0 0) 48 1 1) 48 2 1) 48 3 1) 48 4 0) 48 5 (-1)) 48 6 (-1)) 48 7 (-1)) 41 14 (-1)) 41 28 (-1)) 41 29 (-1)) 42 (2 + 0) 20) 42 (2 + 1) 1) 42 (2 + 2) 2) 42 (2 + 3) 2) 42 (2 + 4) 1) 42 (2 + 5) 20) 42 (2 + 6) 50) 42 (2 + 7) 1) 42 (2 + 8) 1) 42 (2 + 9) 1) 42 (2 + 10) 5
abbrev rm_M_init : Room := { frames := 1, cells := 22, slots := 80700, locals := 60 }
theorem kz_M_init {σ : zS} {m : Nat} (hm : 64 ≤ m) (hz : zHz m σ) : zHz m (kS_M_init σ) := (zHz_U (zHz_U (zHz_U (zHz_U (zHz_U (zHz_U (zHz_U (zHz_U (zHz_U (zHz_U (zHz_U (zHz_U (zHz_U (zHz_U (zHz_U (zHz_U (zHz_U (zHz_U (zHz_U (zHz_U (zHz_U (zHz_U (zHz_U (zHz_U (zHz_U (zHz_U (zHz_U (zHz_U (zHz_U (zHz_U (zHz_U (zHz_U (zHz_U (zHz_U (zHz_U (zHz_U (zHz_U (zHz_U (zHz_U (zHz_U (zHz_U (zHz_U (zHz_U (zHz_U (zHz_U (zHz_U (zHz_U (zHz_U (zHz_U (zHz_U (zHz_U (zHz_U hz (by omega)) (by omega)) (by omega)) (by omega)) (by omega)) (by omega)) (by omega)) (by omega)) (by omega)) (by omega)) (by omega)) (by omega)) (by omega)) (by omega)) (by omega)) (by omega)) (by omega)) (by omega)) (by omega)) (by omega)) (by omega)) (by omega)) (by omega)) (by omega)) (by omega)) (by omega)) (by omega)) (by omega)) (by omega)) (by omega)) (by omega)) (by omega)) (by omega)) (by omega)) (by omega)) (by omega)) (by omega)) (by omega)) (by omega)) (by omega)) (by omega)) (by omega)) (by omega)) (by omega)) (by omega)) (by omega)) (by omega)) (by omega)) (by omega)) (by omega)) (by omega)) (by omega))
set_option maxRecDepth 20000 in
set_option maxHeartbeats 4000000 in
theorem s_M_init {Ω : zO} {q0 q1 q2 q3 q4 q5 q6 q7 q8 q9 q10 q11 q12 q13 q14 q15 q16 q17 q18 q19 q20 q21 q22 q23 q24 q25 q26 q27 q28 q29 q30 q31 q32 q33 q34 q35 q36 q37 q38 q39 q40 q41 : Nat} {σ : zS} (hz : zHz 42 σ) : zMk Ω y_M_init (.code y_M_init c_M_init 2 none) rm_M_init kL_92 kL_136 [q0, q1, q2, q3, q4, q5, q6, q7, q8, q9, q10, q11, q12, q13, q14, q15, q16, q17, q18, q19, q20, q21, q22, q23, q24, q25, q26, q27, q28, q29, q30, q31, q32, q33, q34, q35, q36, q37, q38, q39, q40, q41] (fun v => [q0, q1, q2, q3, q4, q5, q6, q7, q8, q9, q10, q11, q12, q13, q14, q15, q16, q17, q18, q19, q20, q21, q22, q23, q24, q25, q26, q27, q28, q29, q30, q31, q32, q33, q34, q35, q36, q37, q38, q39, q40, q41, v 0, v 1, v 2, v 3, v 4, v 5, v 6, v 7, v 8, v 9, v 10, v 11, v 12, v 13, v 14, v 15, v 16, v 17, v 18, v 19, v 20, v 21]) [.ref q41] σ (fun σ' => σ' = kS_M_init σ) := by
  refine z_ofk (lv := [(0, .ref q41)]) (by decide) rfl rfl (Nat.le_of_ble_eq_true rfl) ?_
  intro Γ Q cx hin rt
  refine v_aload_n cx 0 d_M_init_0 rfl rfl ?_
  refine k_obj cx k_ol_M k_oi k_oc (Nat.le_of_ble_eq_true rfl) (Nat.le_of_ble_eq_true rfl) d_M_init_1 ?_
  refine v_aload_n cx 0 d_M_init_4 rfl rfl ?_
  refine v_sipush cx (by decide) d_M_init_5 ?_
  refine k_newi (qs := [q0, q1, q2, q3, q4, q5, q6, q7, q8, q9, q10, q11, q12, q13, q14, q15, q16, q17, q18, q19, q20, q21, q22, q23, q24, q25, q26, q27, q28, q29, q30, q31, q32, q33, q34, q35, q36, q37, q38, q39, q40, q41]) (Ls := kL_92) (Ls' := kL_93) (N := 499) cx rfl rfl (by decide +kernel) hz k_aci (Nat.le_of_ble_eq_true rfl) (Nat.le_of_ble_eq_true rfl) (Nat.le_of_ble_eq_true rfl) d_M_init_8 rfl (fun r42 => ?_)
  replace hz := zHz_s hz
  refine k_putr (ad := zAd [q0, q1, q2, q3, q4, q5, q6, q7, q8, q9, q10, q11, q12, q13, q14, q15, q16, q17, q18, q19, q20, q21, q22, q23, q24, q25, q26, q27, q28, q29, q30, q31, q32, q33, q34, q35, q36, q37, q38, q39, q40, q41, r42]) (Ls := kL_93) (Ls' := kL_94) (r := 42) cx hin 41 1 tyX11 tyX11_ok nmX11 rfl (by decide) rfl (by decide) inX11 fl_M_7 rfl rfl (tyX11_ok 1 (by decide)) rfl rfl d_M_init_10 rfl ?_
  refine v_aload_n cx 0 d_M_init_13 rfl rfl ?_
  refine v_sipush cx (by decide) d_M_init_14 ?_
  refine k_newi (qs := [q0, q1, q2, q3, q4, q5, q6, q7, q8, q9, q10, q11, q12, q13, q14, q15, q16, q17, q18, q19, q20, q21, q22, q23, q24, q25, q26, q27, q28, q29, q30, q31, q32, q33, q34, q35, q36, q37, q38, q39, q40, q41, r42]) (Ls := kL_94) (Ls' := kL_95) (N := 3992) cx rfl rfl (by decide +kernel) hz k_aci (Nat.le_of_ble_eq_true rfl) (Nat.le_of_ble_eq_true rfl) (Nat.le_of_ble_eq_true rfl) d_M_init_17 rfl (fun r43 => ?_)
  replace hz := zHz_s hz
  refine k_putr (ad := zAd [q0, q1, q2, q3, q4, q5, q6, q7, q8, q9, q10, q11, q12, q13, q14, q15, q16, q17, q18, q19, q20, q21, q22, q23, q24, q25, q26, q27, q28, q29, q30, q31, q32, q33, q34, q35, q36, q37, q38, q39, q40, q41, r42, r43]) (Ls := kL_95) (Ls' := kL_96) (r := 43) cx hin 41 2 tyX11 tyX11_ok nmX11 rfl (by decide) rfl (by decide) inX11 fl_M_13 rfl rfl (tyX11_ok 2 (by decide)) rfl rfl d_M_init_19 rfl ?_
  refine v_aload_n cx 0 d_M_init_22 rfl rfl ?_
  refine v_sipush cx (by decide) d_M_init_23 ?_
  refine k_newi (qs := [q0, q1, q2, q3, q4, q5, q6, q7, q8, q9, q10, q11, q12, q13, q14, q15, q16, q17, q18, q19, q20, q21, q22, q23, q24, q25, q26, q27, q28, q29, q30, q31, q32, q33, q34, q35, q36, q37, q38, q39, q40, q41, r42, r43]) (Ls := kL_96) (Ls' := kL_97) (N := 499) cx rfl rfl (by decide +kernel) hz k_aci (Nat.le_of_ble_eq_true rfl) (Nat.le_of_ble_eq_true rfl) (Nat.le_of_ble_eq_true rfl) d_M_init_26 rfl (fun r44 => ?_)
  replace hz := zHz_s hz
  refine k_putr (ad := zAd [q0, q1, q2, q3, q4, q5, q6, q7, q8, q9, q10, q11, q12, q13, q14, q15, q16, q17, q18, q19, q20, q21, q22, q23, q24, q25, q26, q27, q28, q29, q30, q31, q32, q33, q34, q35, q36, q37, q38, q39, q40, q41, r42, r43, r44]) (Ls := kL_97) (Ls' := kL_98) (r := 44) cx hin 41 4 tyX11 tyX11_ok nmX11 rfl (by decide) rfl (by decide) inX11 fl_M_16 rfl rfl (tyX11_ok 4 (by decide)) rfl rfl d_M_init_28 rfl ?_
  refine v_aload_n cx 0 d_M_init_31 rfl rfl ?_
  refine v_bipush cx (by decide) d_M_init_32 ?_
  refine k_newi (qs := [q0, q1, q2, q3, q4, q5, q6, q7, q8, q9, q10, q11, q12, q13, q14, q15, q16, q17, q18, q19, q20, q21, q22, q23, q24, q25, q26, q27, q28, q29, q30, q31, q32, q33, q34, q35, q36, q37, q38, q39, q40, q41, r42, r43, r44]) (Ls := kL_98) (Ls' := kL_99) (N := 11) cx rfl rfl (by decide +kernel) hz k_aci (Nat.le_of_ble_eq_true rfl) (Nat.le_of_ble_eq_true rfl) (Nat.le_of_ble_eq_true rfl) d_M_init_34 rfl (fun r45 => ?_)
  replace hz := zHz_s hz
  refine v_dup cx d_M_init_36 rfl ?_
  refine v_iconst cx d_M_init_37 ?_
  refine v_bipush cx (by decide) d_M_init_38 ?_
  refine v_iast (o := 45) (N := 11) (i := 0) (a := 20) (ad := zAd [q0, q1, q2, q3, q4, q5, q6, q7, q8, q9, q10, q11, q12, q13, q14, q15, q16, q17, q18, q19, q20, q21, q22, q23, q24, q25, q26, q27, q28, q29, q30, q31, q32, q33, q34, q35, q36, q37, q38, q39, q40, q41, r42, r43, r44, r45]) (Ls := kL_99) cx rfl (by decide) (by decide) (by decide) ⟨by decide, by decide⟩ d_M_init_40 ?_
  replace hz := zHz_U (u := 45) (k := 0) (v := 20) hz (by decide)
  refine v_dup cx d_M_init_41 rfl ?_
  refine v_iconst cx d_M_init_42 ?_
  refine v_iconst cx d_M_init_43 ?_
  refine v_iast (o := 45) (N := 11) (i := 1) (a := 1) (ad := zAd [q0, q1, q2, q3, q4, q5, q6, q7, q8, q9, q10, q11, q12, q13, q14, q15, q16, q17, q18, q19, q20, q21, q22, q23, q24, q25, q26, q27, q28, q29, q30, q31, q32, q33, q34, q35, q36, q37, q38, q39, q40, q41, r42, r43, r44, r45]) (Ls := kL_99) cx rfl (by decide) (by decide) (by decide) ⟨by decide, by decide⟩ d_M_init_44 ?_
  replace hz := zHz_U (u := 45) (k := 1) (v := 1) hz (by decide)
  refine v_dup cx d_M_init_45 rfl ?_
  refine v_iconst cx d_M_init_46 ?_
  refine v_iconst cx d_M_init_47 ?_
  refine v_iast (o := 45) (N := 11) (i := 2) (a := 2) (ad := zAd [q0, q1, q2, q3, q4, q5, q6, q7, q8, q9, q10, q11, q12, q13, q14, q15, q16, q17, q18, q19, q20, q21, q22, q23, q24, q25, q26, q27, q28, q29, q30, q31, q32, q33, q34, q35, q36, q37, q38, q39, q40, q41, r42, r43, r44, r45]) (Ls := kL_99) cx rfl (by decide) (by decide) (by decide) ⟨by decide, by decide⟩ d_M_init_48 ?_
  replace hz := zHz_U (u := 45) (k := 2) (v := 2) hz (by decide)
  refine v_dup cx d_M_init_49 rfl ?_
  refine v_iconst cx d_M_init_50 ?_
  refine v_iconst cx d_M_init_51 ?_
  refine v_iast (o := 45) (N := 11) (i := 3) (a := 2) (ad := zAd [q0, q1, q2, q3, q4, q5, q6, q7, q8, q9, q10, q11, q12, q13, q14, q15, q16, q17, q18, q19, q20, q21, q22, q23, q24, q25, q26, q27, q28, q29, q30, q31, q32, q33, q34, q35, q36, q37, q38, q39, q40, q41, r42, r43, r44, r45]) (Ls := kL_99) cx rfl (by decide) (by decide) (by decide) ⟨by decide, by decide⟩ d_M_init_52 ?_
  replace hz := zHz_U (u := 45) (k := 3) (v := 2) hz (by decide)
  refine v_dup cx d_M_init_53 rfl ?_
  refine v_iconst cx d_M_init_54 ?_
  refine v_iconst cx d_M_init_55 ?_
  refine v_iast (o := 45) (N := 11) (i := 4) (a := 1) (ad := zAd [q0, q1, q2, q3, q4, q5, q6, q7, q8, q9, q10, q11, q12, q13, q14, q15, q16, q17, q18, q19, q20, q21, q22, q23, q24, q25, q26, q27, q28, q29, q30, q31, q32, q33, q34, q35, q36, q37, q38, q39, q40, q41, r42, r43, r44, r45]) (Ls := kL_99) cx rfl (by decide) (by decide) (by decide) ⟨by decide, by decide⟩ d_M_init_56 ?_
  replace hz := zHz_U (u := 45) (k := 4) (v := 1) hz (by decide)
  refine v_dup cx d_M_init_57 rfl ?_
  refine v_iconst cx d_M_init_58 ?_
  refine v_bipush cx (by decide) d_M_init_59 ?_
  refine v_iast (o := 45) (N := 11) (i := 5) (a := 20) (ad := zAd [q0, q1, q2, q3, q4, q5, q6, q7, q8, q9, q10, q11, q12, q13, q14, q15, q16, q17, q18, q19, q20, q21, q22, q23, q24, q25, q26, q27, q28, q29, q30, q31, q32, q33, q34, q35, q36, q37, q38, q39, q40, q41, r42, r43, r44, r45]) (Ls := kL_99) cx rfl (by decide) (by decide) (by decide) ⟨by decide, by decide⟩ d_M_init_61 ?_
  replace hz := zHz_U (u := 45) (k := 5) (v := 20) hz (by decide)
  refine v_dup cx d_M_init_62 rfl ?_
  refine v_bipush cx (by decide) d_M_init_63 ?_
  refine v_bipush cx (by decide) d_M_init_65 ?_
  refine v_iast (o := 45) (N := 11) (i := 6) (a := 50) (ad := zAd [q0, q1, q2, q3, q4, q5, q6, q7, q8, q9, q10, q11, q12, q13, q14, q15, q16, q17, q18, q19, q20, q21, q22, q23, q24, q25, q26, q27, q28, q29, q30, q31, q32, q33, q34, q35, q36, q37, q38, q39, q40, q41, r42, r43, r44, r45]) (Ls := kL_99) cx rfl (by decide) (by decide) (by decide) ⟨by decide, by decide⟩ d_M_init_67 ?_
  replace hz := zHz_U (u := 45) (k := 6) (v := 50) hz (by decide)
  refine v_dup cx d_M_init_68 rfl ?_
  refine v_bipush cx (by decide) d_M_init_69 ?_
  refine v_iconst cx d_M_init_71 ?_
  refine v_iast (o := 45) (N := 11) (i := 7) (a := 1) (ad := zAd [q0, q1, q2, q3, q4, q5, q6, q7, q8, q9, q10, q11, q12, q13, q14, q15, q16, q17, q18, q19, q20, q21, q22, q23, q24, q25, q26, q27, q28, q29, q30, q31, q32, q33, q34, q35, q36, q37, q38, q39, q40, q41, r42, r43, r44, r45]) (Ls := kL_99) cx rfl (by decide) (by decide) (by decide) ⟨by decide, by decide⟩ d_M_init_72 ?_
  replace hz := zHz_U (u := 45) (k := 7) (v := 1) hz (by decide)
  refine v_dup cx d_M_init_73 rfl ?_
  refine v_bipush cx (by decide) d_M_init_74 ?_
  refine v_iconst cx d_M_init_76 ?_
  refine v_iast (o := 45) (N := 11) (i := 8) (a := 1) (ad := zAd [q0, q1, q2, q3, q4, q5, q6, q7, q8, q9, q10, q11, q12, q13, q14, q15, q16, q17, q18, q19, q20, q21, q22, q23, q24, q25, q26, q27, q28, q29, q30, q31, q32, q33, q34, q35, q36, q37, q38, q39, q40, q41, r42, r43, r44, r45]) (Ls := kL_99) cx rfl (by decide) (by decide) (by decide) ⟨by decide, by decide⟩ d_M_init_77 ?_
  replace hz := zHz_U (u := 45) (k := 8) (v := 1) hz (by decide)
  refine v_dup cx d_M_init_78 rfl ?_
  refine v_bipush cx (by decide) d_M_init_79 ?_
  refine v_iconst cx d_M_init_81 ?_
  refine v_iast (o := 45) (N := 11) (i := 9) (a := 1) (ad := zAd [q0, q1, q2, q3, q4, q5, q6, q7, q8, q9, q10, q11, q12, q13, q14, q15, q16, q17, q18, q19, q20, q21, q22, q23, q24, q25, q26, q27, q28, q29, q30, q31, q32, q33, q34, q35, q36, q37, q38, q39, q40, q41, r42, r43, r44, r45]) (Ls := kL_99) cx rfl (by decide) (by decide) (by decide) ⟨by decide, by decide⟩ d_M_init_82 ?_
  replace hz := zHz_U (u := 45) (k := 9) (v := 1) hz (by decide)
  refine v_dup cx d_M_init_83 rfl ?_
  refine v_bipush cx (by decide) d_M_init_84 ?_
  refine v_iconst cx d_M_init_86 ?_
  refine v_iast (o := 45) (N := 11) (i := 10) (a := 5) (ad := zAd [q0, q1, q2, q3, q4, q5, q6, q7, q8, q9, q10, q11, q12, q13, q14, q15, q16, q17, q18, q19, q20, q21, q22, q23, q24, q25, q26, q27, q28, q29, q30, q31, q32, q33, q34, q35, q36, q37, q38, q39, q40, q41, r42, r43, r44, r45]) (Ls := kL_99) cx rfl (by decide) (by decide) (by decide) ⟨by decide, by decide⟩ d_M_init_87 ?_
  replace hz := zHz_U (u := 45) (k := 10) (v := 5) hz (by decide)
  refine k_putr (ad := zAd [q0, q1, q2, q3, q4, q5, q6, q7, q8, q9, q10, q11, q12, q13, q14, q15, q16, q17, q18, q19, q20, q21, q22, q23, q24, q25, q26, q27, q28, q29, q30, q31, q32, q33, q34, q35, q36, q37, q38, q39, q40, q41, r42, r43, r44, r45]) (Ls := kL_99) (Ls' := kL_100) (r := 45) cx hin 41 6 tyX11 tyX11_ok nmX11 rfl (by decide) rfl (by decide) inX11 fl_M_19 rfl rfl (tyX11_ok 6 (by decide)) rfl rfl d_M_init_88 rfl ?_
  refine v_aload_n cx 0 d_M_init_91 rfl rfl ?_
  refine v_bipush cx (by decide) d_M_init_92 ?_
  refine k_newi (qs := [q0, q1, q2, q3, q4, q5, q6, q7, q8, q9, q10, q11, q12, q13, q14, q15, q16, q17, q18, q19, q20, q21, q22, q23, q24, q25, q26, q27, q28, q29, q30, q31, q32, q33, q34, q35, q36, q37, q38, q39, q40, q41, r42, r43, r44, r45]) (Ls := kL_100) (Ls' := kL_101) (N := 11) cx rfl rfl (by decide +kernel) hz k_aci (Nat.le_of_ble_eq_true rfl) (Nat.le_of_ble_eq_true rfl) (Nat.le_of_ble_eq_true rfl) d_M_init_94 rfl (fun r46 => ?_)
  replace hz := zHz_s hz
  refine v_dup cx d_M_init_96 rfl ?_
  refine v_iconst cx d_M_init_97 ?_
  refine v_bipush cx (by decide) d_M_init_98 ?_
  refine v_iast (o := 46) (N := 11) (i := 0) (a := 99) (ad := zAd [q0, q1, q2, q3, q4, q5, q6, q7, q8, q9, q10, q11, q12, q13, q14, q15, q16, q17, q18, q19, q20, q21, q22, q23, q24, q25, q26, q27, q28, q29, q30, q31, q32, q33, q34, q35, q36, q37, q38, q39, q40, q41, r42, r43, r44, r45, r46]) (Ls := kL_101) cx rfl (by decide) (by decide) (by decide) ⟨by decide, by decide⟩ d_M_init_100 ?_
  replace hz := zHz_U (u := 46) (k := 0) (v := 99) hz (by decide)
  refine v_dup cx d_M_init_101 rfl ?_
  refine v_iconst cx d_M_init_102 ?_
  refine v_iconst cx d_M_init_103 ?_
  refine v_iast (o := 46) (N := 11) (i := 1) (a := 4) (ad := zAd [q0, q1, q2, q3, q4, q5, q6, q7, q8, q9, q10, q11, q12, q13, q14, q15, q16, q17, q18, q19, q20, q21, q22, q23, q24, q25, q26, q27, q28, q29, q30, q31, q32, q33, q34, q35, q36, q37, q38, q39, q40, q41, r42, r43, r44, r45, r46]) (Ls := kL_101) cx rfl (by decide) (by decide) (by decide) ⟨by decide, by decide⟩ d_M_init_104 ?_
  replace hz := zHz_U (u := 46) (k := 1) (v := 4) hz (by decide)
  refine v_dup cx d_M_init_105 rfl ?_
  refine v_iconst cx d_M_init_106 ?_
  refine v_bipush cx (by decide) d_M_init_107 ?_
  refine v_iast (o := 46) (N := 11) (i := 2) (a := 99) (ad := zAd [q0, q1, q2, q3, q4, q5, q6, q7, q8, q9, q10, q11, q12, q13, q14, q15, q16, q17, q18, q19, q20, q21, q22, q23, q24, q25, q26, q27, q28, q29, q30, q31, q32, q33, q34, q35, q36, q37, q38, q39, q40, q41, r42, r43, r44, r45, r46]) (Ls := kL_101) cx rfl (by decide) (by decide) (by decide) ⟨by decide, by decide⟩ d_M_init_109 ?_
  replace hz := zHz_U (u := 46) (k := 2) (v := 99) hz (by decide)
  refine v_dup cx d_M_init_110 rfl ?_
  refine v_iconst cx d_M_init_111 ?_
  refine v_bipush cx (by decide) d_M_init_112 ?_
  refine v_iast (o := 46) (N := 11) (i := 3) (a := 9) (ad := zAd [q0, q1, q2, q3, q4, q5, q6, q7, q8, q9, q10, q11, q12, q13, q14, q15, q16, q17, q18, q19, q20, q21, q22, q23, q24, q25, q26, q27, q28, q29, q30, q31, q32, q33, q34, q35, q36, q37, q38, q39, q40, q41, r42, r43, r44, r45, r46]) (Ls := kL_101) cx rfl (by decide) (by decide) (by decide) ⟨by decide, by decide⟩ d_M_init_114 ?_
  replace hz := zHz_U (u := 46) (k := 3) (v := 9) hz (by decide)
  refine v_dup cx d_M_init_115 rfl ?_
  refine v_iconst cx d_M_init_116 ?_
  refine v_bipush cx (by decide) d_M_init_117 ?_
  refine v_iast (o := 46) (N := 11) (i := 4) (a := 9) (ad := zAd [q0, q1, q2, q3, q4, q5, q6, q7, q8, q9, q10, q11, q12, q13, q14, q15, q16, q17, q18, q19, q20, q21, q22, q23, q24, q25, q26, q27, q28, q29, q30, q31, q32, q33, q34, q35, q36, q37, q38, q39, q40, q41, r42, r43, r44, r45, r46]) (Ls := kL_101) cx rfl (by decide) (by decide) (by decide) ⟨by decide, by decide⟩ d_M_init_119 ?_
  replace hz := zHz_U (u := 46) (k := 4) (v := 9) hz (by decide)
  refine v_dup cx d_M_init_120 rfl ?_
  refine v_iconst cx d_M_init_121 ?_
  refine v_bipush cx (by decide) d_M_init_122 ?_
  refine v_iast (o := 46) (N := 11) (i := 5) (a := 99) (ad := zAd [q0, q1, q2, q3, q4, q5, q6, q7, q8, q9, q10, q11, q12, q13, q14, q15, q16, q17, q18, q19, q20, q21, q22, q23, q24, q25, q26, q27, q28, q29, q30, q31, q32, q33, q34, q35, q36, q37, q38, q39, q40, q41, r42, r43, r44, r45, r46]) (Ls := kL_101) cx rfl (by decide) (by decide) (by decide) ⟨by decide, by decide⟩ d_M_init_124 ?_
  replace hz := zHz_U (u := 46) (k := 5) (v := 99) hz (by decide)
  refine v_dup cx d_M_init_125 rfl ?_
  refine v_bipush cx (by decide) d_M_init_126 ?_
  refine v_bipush cx (by decide) d_M_init_128 ?_
  refine v_iast (o := 46) (N := 11) (i := 6) (a := 99) (ad := zAd [q0, q1, q2, q3, q4, q5, q6, q7, q8, q9, q10, q11, q12, q13, q14, q15, q16, q17, q18, q19, q20, q21, q22, q23, q24, q25, q26, q27, q28, q29, q30, q31, q32, q33, q34, q35, q36, q37, q38, q39, q40, q41, r42, r43, r44, r45, r46]) (Ls := kL_101) cx rfl (by decide) (by decide) (by decide) ⟨by decide, by decide⟩ d_M_init_130 ?_
  replace hz := zHz_U (u := 46) (k := 6) (v := 99) hz (by decide)
  refine v_dup cx d_M_init_131 rfl ?_
  refine v_bipush cx (by decide) d_M_init_132 ?_
  refine v_iconst cx d_M_init_134 ?_
  refine v_iast (o := 46) (N := 11) (i := 7) (a := 3) (ad := zAd [q0, q1, q2, q3, q4, q5, q6, q7, q8, q9, q10, q11, q12, q13, q14, q15, q16, q17, q18, q19, q20, q21, q22, q23, q24, q25, q26, q27, q28, q29, q30, q31, q32, q33, q34, q35, q36, q37, q38, q39, q40, q41, r42, r43, r44, r45, r46]) (Ls := kL_101) cx rfl (by decide) (by decide) (by decide) ⟨by decide, by decide⟩ d_M_init_135 ?_
  replace hz := zHz_U (u := 46) (k := 7) (v := 3) hz (by decide)
  refine v_dup cx d_M_init_136 rfl ?_
  refine v_bipush cx (by decide) d_M_init_137 ?_
  refine v_bipush cx (by decide) d_M_init_139 ?_
  refine v_iast (o := 46) (N := 11) (i := 8) (a := 9) (ad := zAd [q0, q1, q2, q3, q4, q5, q6, q7, q8, q9, q10, q11, q12, q13, q14, q15, q16, q17, q18, q19, q20, q21, q22, q23, q24, q25, q26, q27, q28, q29, q30, q31, q32, q33, q34, q35, q36, q37, q38, q39, q40, q41, r42, r43, r44, r45, r46]) (Ls := kL_101) cx rfl (by decide) (by decide) (by decide) ⟨by decide, by decide⟩ d_M_init_141 ?_
  replace hz := zHz_U (u := 46) (k := 8) (v := 9) hz (by decide)
  refine v_dup cx d_M_init_142 rfl ?_
  refine v_bipush cx (by decide) d_M_init_143 ?_
  refine v_bipush cx (by decide) d_M_init_145 ?_
  refine v_iast (o := 46) (N := 11) (i := 9) (a := 9) (ad := zAd [q0, q1, q2, q3, q4, q5, q6, q7, q8, q9, q10, q11, q12, q13, q14, q15, q16, q17, q18, q19, q20, q21, q22, q23, q24, q25, q26, q27, q28, q29, q30, q31, q32, q33, q34, q35, q36, q37, q38, q39, q40, q41, r42, r43, r44, r45, r46]) (Ls := kL_101) cx rfl (by decide) (by decide) (by decide) ⟨by decide, by decide⟩ d_M_init_147 ?_
  replace hz := zHz_U (u := 46) (k := 9) (v := 9) hz (by decide)
  refine v_dup cx d_M_init_148 rfl ?_
  refine v_bipush cx (by decide) d_M_init_149 ?_
  refine v_bipush cx (by decide) d_M_init_151 ?_
  refine v_iast (o := 46) (N := 11) (i := 10) (a := 30) (ad := zAd [q0, q1, q2, q3, q4, q5, q6, q7, q8, q9, q10, q11, q12, q13, q14, q15, q16, q17, q18, q19, q20, q21, q22, q23, q24, q25, q26, q27, q28, q29, q30, q31, q32, q33, q34, q35, q36, q37, q38, q39, q40, q41, r42, r43, r44, r45, r46]) (Ls := kL_101) cx rfl (by decide) (by decide) (by decide) ⟨by decide, by decide⟩ d_M_init_153 ?_
  replace hz := zHz_U (u := 46) (k := 10) (v := 30) hz (by decide)
  refine k_putr (ad := zAd [q0, q1, q2, q3, q4, q5, q6, q7, q8, q9, q10, q11, q12, q13, q14, q15, q16, q17, q18, q19, q20, q21, q22, q23, q24, q25, q26, q27, q28, q29, q30, q31, q32, q33, q34, q35, q36, q37, q38, q39, q40, q41, r42, r43, r44, r45, r46]) (Ls := kL_101) (Ls' := kL_102) (r := 46) cx hin 41 7 tyX11 tyX11_ok nmX11 rfl (by decide) rfl (by decide) inX11 fl_M_22 rfl rfl (tyX11_ok 7 (by decide)) rfl rfl d_M_init_154 rfl ?_
  refine v_aload_n cx 0 d_M_init_157 rfl rfl ?_
  refine v_bipush cx (by decide) d_M_init_158 ?_
  refine k_newi (qs := [q0, q1, q2, q3, q4, q5, q6, q7, q8, q9, q10, q11, q12, q13, q14, q15, q16, q17, q18, q19, q20, q21, q22, q23, q24, q25, q26, q27, q28, q29, q30, q31, q32, q33, q34, q35, q36, q37, q38, q39, q40, q41, r42, r43, r44, r45, r46]) (Ls := kL_102) (Ls' := kL_103) (N := 8) cx rfl rfl (by decide +kernel) hz k_aci (Nat.le_of_ble_eq_true rfl) (Nat.le_of_ble_eq_true rfl) (Nat.le_of_ble_eq_true rfl) d_M_init_160 rfl (fun r47 => ?_)
  replace hz := zHz_s hz
  refine v_dup cx d_M_init_162 rfl ?_
  refine v_iconst cx d_M_init_163 ?_
  refine v_iconst cx d_M_init_164 ?_
  refine v_iast (o := 47) (N := 8) (i := 0) (a := (-1)) (ad := zAd [q0, q1, q2, q3, q4, q5, q6, q7, q8, q9, q10, q11, q12, q13, q14, q15, q16, q17, q18, q19, q20, q21, q22, q23, q24, q25, q26, q27, q28, q29, q30, q31, q32, q33, q34, q35, q36, q37, q38, q39, q40, q41, r42, r43, r44, r45, r46, r47]) (Ls := kL_103) cx rfl (by decide) (by decide) (by decide) ⟨by decide, by decide⟩ d_M_init_165 ?_
  replace hz := zHz_U (u := 47) (k := 0) (v := (-1)) hz (by decide)
  refine v_dup cx d_M_init_166 rfl ?_
  refine v_iconst cx d_M_init_167 ?_
  refine v_iconst cx d_M_init_168 ?_
  refine v_iast (o := 47) (N := 8) (i := 1) (a := (-1)) (ad := zAd [q0, q1, q2, q3, q4, q5, q6, q7, q8, q9, q10, q11, q12, q13, q14, q15, q16, q17, q18, q19, q20, q21, q22, q23, q24, q25, q26, q27, q28, q29, q30, q31, q32, q33, q34, q35, q36, q37, q38, q39, q40, q41, r42, r43, r44, r45, r46, r47]) (Ls := kL_103) cx rfl (by decide) (by decide) (by decide) ⟨by decide, by decide⟩ d_M_init_169 ?_
  replace hz := zHz_U (u := 47) (k := 1) (v := (-1)) hz (by decide)
  refine v_dup cx d_M_init_170 rfl ?_
  refine v_iconst cx d_M_init_171 ?_
  refine v_iconst cx d_M_init_172 ?_
  refine v_iast (o := 47) (N := 8) (i := 2) (a := 0) (ad := zAd [q0, q1, q2, q3, q4, q5, q6, q7, q8, q9, q10, q11, q12, q13, q14, q15, q16, q17, q18, q19, q20, q21, q22, q23, q24, q25, q26, q27, q28, q29, q30, q31, q32, q33, q34, q35, q36, q37, q38, q39, q40, q41, r42, r43, r44, r45, r46, r47]) (Ls := kL_103) cx rfl (by decide) (by decide) (by decide) ⟨by decide, by decide⟩ d_M_init_173 ?_
  replace hz := zHz_U (u := 47) (k := 2) (v := 0) hz (by decide)
  refine v_dup cx d_M_init_174 rfl ?_
  refine v_iconst cx d_M_init_175 ?_
  refine v_iconst cx d_M_init_176 ?_
  refine v_iast (o := 47) (N := 8) (i := 3) (a := 1) (ad := zAd [q0, q1, q2, q3, q4, q5, q6, q7, q8, q9, q10, q11, q12, q13, q14, q15, q16, q17, q18, q19, q20, q21, q22, q23, q24, q25, q26, q27, q28, q29, q30, q31, q32, q33, q34, q35, q36, q37, q38, q39, q40, q41, r42, r43, r44, r45, r46, r47]) (Ls := kL_103) cx rfl (by decide) (by decide) (by decide) ⟨by decide, by decide⟩ d_M_init_177 ?_
  replace hz := zHz_U (u := 47) (k := 3) (v := 1) hz (by decide)
  refine v_dup cx d_M_init_178 rfl ?_
  refine v_iconst cx d_M_init_179 ?_
  refine v_iconst cx d_M_init_180 ?_
  refine v_iast (o := 47) (N := 8) (i := 4) (a := 1) (ad := zAd [q0, q1, q2, q3, q4, q5, q6, q7, q8, q9, q10, q11, q12, q13, q14, q15, q16, q17, q18, q19, q20, q21, q22, q23, q24, q25, q26, q27, q28, q29, q30, q31, q32, q33, q34, q35, q36, q37, q38, q39, q40, q41, r42, r43, r44, r45, r46, r47]) (Ls := kL_103) cx rfl (by decide) (by decide) (by decide) ⟨by decide, by decide⟩ d_M_init_181 ?_
  replace hz := zHz_U (u := 47) (k := 4) (v := 1) hz (by decide)
  refine v_dup cx d_M_init_182 rfl ?_
  refine v_iconst cx d_M_init_183 ?_
  refine v_iconst cx d_M_init_184 ?_
  refine v_iast (o := 47) (N := 8) (i := 5) (a := 1) (ad := zAd [q0, q1, q2, q3, q4, q5, q6, q7, q8, q9, q10, q11, q12, q13, q14, q15, q16, q17, q18, q19, q20, q21, q22, q23, q24, q25, q26, q27, q28, q29, q30, q31, q32, q33, q34, q35, q36, q37, q38, q39, q40, q41, r42, r43, r44, r45, r46, r47]) (Ls := kL_103) cx rfl (by decide) (by decide) (by decide) ⟨by decide, by decide⟩ d_M_init_185 ?_
  replace hz := zHz_U (u := 47) (k := 5) (v := 1) hz (by decide)
  refine v_dup cx d_M_init_186 rfl ?_
  refine v_bipush cx (by decide) d_M_init_187 ?_
  refine v_iconst cx d_M_init_189 ?_
  refine v_iast (o := 47) (N := 8) (i := 6) (a := 0) (ad := zAd [q0, q1, q2, q3, q4, q5, q6, q7, q8, q9, q10, q11, q12, q13, q14, q15, q16, q17, q18, q19, q20, q21, q22, q23, q24, q25, q26, q27, q28, q29, q30, q31, q32, q33, q34, q35, q36, q37, q38, q39, q40, q41, r42, r43, r44, r45, r46, r47]) (Ls := kL_103) cx rfl (by decide) (by decide) (by decide) ⟨by decide, by decide⟩ d_M_init_190 ?_
  replace hz := zHz_U (u := 47) (k := 6) (v := 0) hz (by decide)
  refine v_dup cx d_M_init_191 rfl ?_
  refine v_bipush cx (by decide) d_M_init_192 ?_
  refine v_iconst cx d_M_init_194 ?_
  refine v_iast (o := 47) (N := 8) (i := 7) (a := (-1)) (ad := zAd [q0, q1, q2, q3, q4, q5, q6, q7, q8, q9, q10, q11, q12, q13, q14, q15, q16, q17, q18, q19, q20, q21, q22, q23, q24, q25, q26, q27, q28, q29, q30, q31, q32, q33, q34, q35, q36, q37, q38, q39, q40, q41, r42, r43, r44, r45, r46, r47]) (Ls := kL_103) cx rfl (by decide) (by decide) (by decide) ⟨by decide, by decide⟩ d_M_init_195 ?_
  replace hz := zHz_U (u := 47) (k := 7) (v := (-1)) hz (by decide)
  refine k_putr (ad := zAd [q0, q1, q2, q3, q4, q5, q6, q7, q8, q9, q10, q11, q12, q13, q14, q15, q16, q17, q18, q19, q20, q21, q22, q23, q24, q25, q26, q27, q28, q29, q30, q31, q32, q33, q34, q35, q36, q37, q38, q39, q40, q41, r42, r43, r44, r45, r46, r47]) (Ls := kL_103) (Ls' := kL_104) (r := 47) cx hin 41 8 tyX11 tyX11_ok nmX11 rfl (by decide) rfl (by decide) inX11 fl_M_25 rfl rfl (tyX11_ok 8 (by decide)) rfl rfl d_M_init_196 rfl ?_
  refine v_aload_n cx 0 d_M_init_199 rfl rfl ?_
  refine v_bipush cx (by decide) d_M_init_200 ?_
  refine k_newi (qs := [q0, q1, q2, q3, q4, q5, q6, q7, q8, q9, q10, q11, q12, q13, q14, q15, q16, q17, q18, q19, q20, q21, q22, q23, q24, q25, q26, q27, q28, q29, q30, q31, q32, q33, q34, q35, q36, q37, q38, q39, q40, q41, r42, r43, r44, r45, r46, r47]) (Ls := kL_104) (Ls' := kL_105) (N := 8) cx rfl rfl (by decide +kernel) hz k_aci (Nat.le_of_ble_eq_true rfl) (Nat.le_of_ble_eq_true rfl) (Nat.le_of_ble_eq_true rfl) d_M_init_202 rfl (fun r48 => ?_)
  replace hz := zHz_s hz
  refine v_dup cx d_M_init_204 rfl ?_
  refine v_iconst cx d_M_init_205 ?_
  refine v_iconst cx d_M_init_206 ?_
  refine v_iast (o := 48) (N := 8) (i := 0) (a := 0) (ad := zAd [q0, q1, q2, q3, q4, q5, q6, q7, q8, q9, q10, q11, q12, q13, q14, q15, q16, q17, q18, q19, q20, q21, q22, q23, q24, q25, q26, q27, q28, q29, q30, q31, q32, q33, q34, q35, q36, q37, q38, q39, q40, q41, r42, r43, r44, r45, r46, r47, r48]) (Ls := kL_105) cx rfl (by decide) (by decide) (by decide) ⟨by decide, by decide⟩ d_M_init_207 ?_
  replace hz := zHz_U (u := 48) (k := 0) (v := 0) hz (by decide)
  refine v_dup cx d_M_init_208 rfl ?_
  refine v_iconst cx d_M_init_209 ?_
  refine v_iconst cx d_M_init_210 ?_
  refine v_iast (o := 48) (N := 8) (i := 1) (a := 1) (ad := zAd [q0, q1, q2, q3, q4, q5, q6, q7, q8, q9, q10, q11, q12, q13, q14, q15, q16, q17, q18, q19, q20, q21, q22, q23, q24, q25, q26, q27, q28, q29, q30, q31, q32, q33, q34, q35, q36, q37, q38, q39, q40, q41, r42, r43, r44, r45, r46, r47, r48]) (Ls := kL_105) cx rfl (by decide) (by decide) (by decide) ⟨by decide, by decide⟩ d_M_init_211 ?_
  replace hz := zHz_U (u := 48) (k := 1) (v := 1) hz (by decide)
  refine v_dup cx d_M_init_212 rfl ?_
  refine v_iconst cx d_M_init_213 ?_
  refine v_iconst cx d_M_init_214 ?_
  refine v_iast (o := 48) (N := 8) (i := 2) (a := 1) (ad := zAd [q0, q1, q2, q3, q4, q5, q6, q7, q8, q9, q10, q11, q12, q13, q14, q15, q16, q17, q18, q19, q20, q21, q22, q23, q24, q25, q26, q27, q28, q29, q30, q31, q32, q33, q34, q35, q36, q37, q38, q39, q40, q41, r42, r43, r44, r45, r46, r47, r48]) (Ls := kL_105) cx rfl (by decide) (by decide) (by decide) ⟨by decide, by decide⟩ d_M_init_215 ?_
  replace hz := zHz_U (u := 48) (k := 2) (v := 1) hz (by decide)
  refine v_dup cx d_M_init_216 rfl ?_
  refine v_iconst cx d_M_init_217 ?_
  refine v_iconst cx d_M_init_218 ?_
  refine v_iast (o := 48) (N := 8) (i := 3) (a := 1) (ad := zAd [q0, q1, q2, q3, q4, q5, q6, q7, q8, q9, q10, q11, q12, q13, q14, q15, q16, q17, q18, q19, q20, q21, q22, q23, q24, q25, q26, q27, q28, q29, q30, q31, q32, q33, q34, q35, q36, q37, q38, q39, q40, q41, r42, r43, r44, r45, r46, r47, r48]) (Ls := kL_105) cx rfl (by decide) (by decide) (by decide) ⟨by decide, by decide⟩ d_M_init_219 ?_
  replace hz := zHz_U (u := 48) (k := 3) (v := 1) hz (by decide)
  refine v_dup cx d_M_init_220 rfl ?_
  refine v_iconst cx d_M_init_221 ?_
  refine v_iconst cx d_M_init_222 ?_
  refine v_iast (o := 48) (N := 8) (i := 4) (a := 0) (ad := zAd [q0, q1, q2, q3, q4, q5, q6, q7, q8, q9, q10, q11, q12, q13, q14, q15, q16, q17, q18, q19, q20, q21, q22, q23, q24, q25, q26, q27, q28, q29, q30, q31, q32, q33, q34, q35, q36, q37, q38, q39, q40, q41, r42, r43, r44, r45, r46, r47, r48]) (Ls := kL_105) cx rfl (by decide) (by decide) (by decide) ⟨by decide, by decide⟩ d_M_init_223 ?_
  replace hz := zHz_U (u := 48) (k := 4) (v := 0) hz (by decide)
  refine v_dup cx d_M_init_224 rfl ?_
  refine v_iconst cx d_M_init_225 ?_
  refine v_iconst cx d_M_init_226 ?_
  refine v_iast (o := 48) (N := 8) (i := 5) (a := (-1)) (ad := zAd [q0, q1, q2, q3, q4, q5, q6, q7, q8, q9, q10, q11, q12, q13, q14, q15, q16, q17, q18, q19, q20, q21, q22, q23, q24, q25, q26, q27, q28, q29, q30, q31, q32, q33, q34, q35, q36, q37, q38, q39, q40, q41, r42, r43, r44, r45, r46, r47, r48]) (Ls := kL_105) cx rfl (by decide) (by decide) (by decide) ⟨by decide, by decide⟩ d_M_init_227 ?_
  replace hz := zHz_U (u := 48) (k := 5) (v := (-1)) hz (by decide)
  refine v_dup cx d_M_init_228 rfl ?_
  refine v_bipush cx (by decide) d_M_init_229 ?_
  refine v_iconst cx d_M_init_231 ?_
  refine v_iast (o := 48) (N := 8) (i := 6) (a := (-1)) (ad := zAd [q0, q1, q2, q3, q4, q5, q6, q7, q8, q9, q10, q11, q12, q13, q14, q15, q16, q17, q18, q19, q20, q21, q22, q23, q24, q25, q26, q27, q28, q29, q30, q31, q32, q33, q34, q35, q36, q37, q38, q39, q40, q41, r42, r43, r44, r45, r46, r47, r48]) (Ls := kL_105) cx rfl (by decide) (by decide) (by decide) ⟨by decide, by decide⟩ d_M_init_232 ?_
  replace hz := zHz_U (u := 48) (k := 6) (v := (-1)) hz (by decide)
  refine v_dup cx d_M_init_233 rfl ?_
  refine v_bipush cx (by decide) d_M_init_234 ?_
  refine v_iconst cx d_M_init_236 ?_
  refine v_iast (o := 48) (N := 8) (i := 7) (a := (-1)) (ad := zAd [q0, q1, q2, q3, q4, q5, q6, q7, q8, q9, q10, q11, q12, q13, q14, q15, q16, q17, q18, q19, q20, q21, q22, q23, q24, q25, q26, q27, q28, q29, q30, q31, q32, q33, q34, q35, q36, q37, q38, q39, q40, q41, r42, r43, r44, r45, r46, r47, r48]) (Ls := kL_105) cx rfl (by decide) (by decide) (by decide) ⟨by decide, by decide⟩ d_M_init_237 ?_
  replace hz := zHz_U (u := 48) (k := 7) (v := (-1)) hz (by decide)
  refine k_putr (ad := zAd [q0, q1, q2, q3, q4, q5, q6, q7, q8, q9, q10, q11, q12, q13, q14, q15, q16, q17, q18, q19, q20, q21, q22, q23, q24, q25, q26, q27, q28, q29, q30, q31, q32, q33, q34, q35, q36, q37, q38, q39, q40, q41, r42, r43, r44, r45, r46, r47, r48]) (Ls := kL_105) (Ls' := kL_106) (r := 48) cx hin 41 9 tyX11 tyX11_ok nmX11 rfl (by decide) rfl (by decide) inX11 fl_M_28 rfl rfl (tyX11_ok 9 (by decide)) rfl rfl d_M_init_238 rfl ?_
  refine v_aload_n cx 0 d_M_init_241 rfl rfl ?_
  refine v_sipush cx (by decide) d_M_init_242 ?_
  refine k_newi (qs := [q0, q1, q2, q3, q4, q5, q6, q7, q8, q9, q10, q11, q12, q13, q14, q15, q16, q17, q18, q19, q20, q21, q22, q23, q24, q25, q26, q27, q28, q29, q30, q31, q32, q33, q34, q35, q36, q37, q38, q39, q40, q41, r42, r43, r44, r45, r46, r47, r48]) (Ls := kL_106) (Ls' := kL_107) (N := 400) cx rfl rfl (by decide +kernel) hz k_aci (Nat.le_of_ble_eq_true rfl) (Nat.le_of_ble_eq_true rfl) (Nat.le_of_ble_eq_true rfl) d_M_init_245 rfl (fun r49 => ?_)
  replace hz := zHz_s hz
  refine k_putr (ad := zAd [q0, q1, q2, q3, q4, q5, q6, q7, q8, q9, q10, q11, q12, q13, q14, q15, q16, q17, q18, q19, q20, q21, q22, q23, q24, q25, q26, q27, q28, q29, q30, q31, q32, q33, q34, q35, q36, q37, q38, q39, q40, q41, r42, r43, r44, r45, r46, r47, r48, r49]) (Ls := kL_107) (Ls' := kL_108) (r := 49) cx hin 41 10 tyX11 tyX11_ok nmX11 rfl (by decide) rfl (by decide) inX11 fl_M_31 rfl rfl (tyX11_ok 10 (by decide)) rfl rfl d_M_init_247 rfl ?_
  refine v_aload_n cx 0 d_M_init_250 rfl rfl ?_
  refine v_iconst cx d_M_init_251 ?_
  refine v_puti (o := 41) (a := (-1)) (ad := zAd [q0, q1, q2, q3, q4, q5, q6, q7, q8, q9, q10, q11, q12, q13, q14, q15, q16, q17, q18, q19, q20, q21, q22, q23, q24, q25, q26, q27, q28, q29, q30, q31, q32, q33, q34, q35, q36, q37, q38, q39, q40, q41, r42, r43, r44, r45, r46, r47, r48, r49]) (Ls := kL_108) cx 14 tyX11 tyX11_ok nmX11 rfl rfl rfl (by decide) inX11 fl_M_34 rfl (tyX11_ok 14 (by decide)) rfl rfl ⟨by decide, by decide⟩ d_M_init_252 ?_
  replace hz := zHz_U (u := 41) (k := 14) (v := (-1)) hz (by decide)
  refine v_aload_n cx 0 d_M_init_255 rfl rfl ?_
  refine v_sipush cx (by decide) d_M_init_256 ?_
  refine k_newi (qs := [q0, q1, q2, q3, q4, q5, q6, q7, q8, q9, q10, q11, q12, q13, q14, q15, q16, q17, q18, q19, q20, q21, q22, q23, q24, q25, q26, q27, q28, q29, q30, q31, q32, q33, q34, q35, q36, q37, q38, q39, q40, q41, r42, r43, r44, r45, r46, r47, r48, r49]) (Ls := kL_108) (Ls' := kL_109) (N := 499) cx rfl rfl (by decide +kernel) hz k_aci (Nat.le_of_ble_eq_true rfl) (Nat.le_of_ble_eq_true rfl) (Nat.le_of_ble_eq_true rfl) d_M_init_259 rfl (fun r50 => ?_)
  replace hz := zHz_s hz
  refine k_putr (ad := zAd [q0, q1, q2, q3, q4, q5, q6, q7, q8, q9, q10, q11, q12, q13, q14, q15, q16, q17, q18, q19, q20, q21, q22, q23, q24, q25, q26, q27, q28, q29, q30, q31, q32, q33, q34, q35, q36, q37, q38, q39, q40, q41, r42, r43, r44, r45, r46, r47, r48, r49, r50]) (Ls := kL_109) (Ls' := kL_110) (r := 50) cx hin 41 15 tyX11 tyX11_ok nmX11 rfl (by decide) rfl (by decide) inX11 fl_M_38 rfl rfl (tyX11_ok 15 (by decide)) rfl rfl d_M_init_261 rfl ?_
  refine v_aload_n cx 0 d_M_init_264 rfl rfl ?_
  refine v_sipush cx (by decide) d_M_init_265 ?_
  refine k_newi (qs := [q0, q1, q2, q3, q4, q5, q6, q7, q8, q9, q10, q11, q12, q13, q14, q15, q16, q17, q18, q19, q20, q21, q22, q23, q24, q25, q26, q27, q28, q29, q30, q31, q32, q33, q34, q35, q36, q37, q38, q39, q40, q41, r42, r43, r44, r45, r46, r47, r48, r49, r50]) (Ls := kL_110) (Ls' := kL_111) (N := 648) cx rfl rfl (by decide +kernel) hz k_aci (Nat.le_of_ble_eq_true rfl) (Nat.le_of_ble_eq_true rfl) (Nat.le_of_ble_eq_true rfl) d_M_init_268 rfl (fun r51 => ?_)
  replace hz := zHz_s hz
  refine k_putr (ad := zAd [q0, q1, q2, q3, q4, q5, q6, q7, q8, q9, q10, q11, q12, q13, q14, q15, q16, q17, q18, q19, q20, q21, q22, q23, q24, q25, q26, q27, q28, q29, q30, q31, q32, q33, q34, q35, q36, q37, q38, q39, q40, q41, r42, r43, r44, r45, r46, r47, r48, r49, r50, r51]) (Ls := kL_111) (Ls' := kL_112) (r := 51) cx hin 41 16 tyX11 tyX11_ok nmX11 rfl (by decide) rfl (by decide) inX11 fl_M_41 rfl rfl (tyX11_ok 16 (by decide)) rfl rfl d_M_init_270 rfl ?_
  refine v_aload_n cx 0 d_M_init_273 rfl rfl ?_
  refine v_sipush cx (by decide) d_M_init_274 ?_
  refine k_newi (qs := [q0, q1, q2, q3, q4, q5, q6, q7, q8, q9, q10, q11, q12, q13, q14, q15, q16, q17, q18, q19, q20, q21, q22, q23, q24, q25, q26, q27, q28, q29, q30, q31, q32, q33, q34, q35, q36, q37, q38, q39, q40, q41, r42, r43, r44, r45, r46, r47, r48, r49, r50, r51]) (Ls := kL_112) (Ls' := kL_113) (N := 648) cx rfl rfl (by decide +kernel) hz k_aci (Nat.le_of_ble_eq_true rfl) (Nat.le_of_ble_eq_true rfl) (Nat.le_of_ble_eq_true rfl) d_M_init_277 rfl (fun r52 => ?_)
  replace hz := zHz_s hz
  refine k_putr (ad := zAd [q0, q1, q2, q3, q4, q5, q6, q7, q8, q9, q10, q11, q12, q13, q14, q15, q16, q17, q18, q19, q20, q21, q22, q23, q24, q25, q26, q27, q28, q29, q30, q31, q32, q33, q34, q35, q36, q37, q38, q39, q40, q41, r42, r43, r44, r45, r46, r47, r48, r49, r50, r51, r52]) (Ls := kL_113) (Ls' := kL_114) (r := 52) cx hin 41 17 tyX11 tyX11_ok nmX11 rfl (by decide) rfl (by decide) inX11 fl_M_44 rfl rfl (tyX11_ok 17 (by decide)) rfl rfl d_M_init_279 rfl ?_
  refine v_aload_n cx 0 d_M_init_282 rfl rfl ?_
  refine v_sipush cx (by decide) d_M_init_283 ?_
  refine k_newi (qs := [q0, q1, q2, q3, q4, q5, q6, q7, q8, q9, q10, q11, q12, q13, q14, q15, q16, q17, q18, q19, q20, q21, q22, q23, q24, q25, q26, q27, q28, q29, q30, q31, q32, q33, q34, q35, q36, q37, q38, q39, q40, q41, r42, r43, r44, r45, r46, r47, r48, r49, r50, r51, r52]) (Ls := kL_114) (Ls' := kL_115) (N := 2592) cx rfl rfl (by decide +kernel) hz k_aci (Nat.le_of_ble_eq_true rfl) (Nat.le_of_ble_eq_true rfl) (Nat.le_of_ble_eq_true rfl) d_M_init_286 rfl (fun r53 => ?_)
  replace hz := zHz_s hz
  refine k_putr (ad := zAd [q0, q1, q2, q3, q4, q5, q6, q7, q8, q9, q10, q11, q12, q13, q14, q15, q16, q17, q18, q19, q20, q21, q22, q23, q24, q25, q26, q27, q28, q29, q30, q31, q32, q33, q34, q35, q36, q37, q38, q39, q40, q41, r42, r43, r44, r45, r46, r47, r48, r49, r50, r51, r52, r53]) (Ls := kL_115) (Ls' := kL_116) (r := 53) cx hin 41 18 tyX11 tyX11_ok nmX11 rfl (by decide) rfl (by decide) inX11 fl_M_47 rfl rfl (tyX11_ok 18 (by decide)) rfl rfl d_M_init_288 rfl ?_
  refine v_aload_n cx 0 d_M_init_291 rfl rfl ?_
  refine v_sipush cx (by decide) d_M_init_292 ?_
  refine k_newi (qs := [q0, q1, q2, q3, q4, q5, q6, q7, q8, q9, q10, q11, q12, q13, q14, q15, q16, q17, q18, q19, q20, q21, q22, q23, q24, q25, q26, q27, q28, q29, q30, q31, q32, q33, q34, q35, q36, q37, q38, q39, q40, q41, r42, r43, r44, r45, r46, r47, r48, r49, r50, r51, r52, r53]) (Ls := kL_116) (Ls' := kL_117) (N := 700) cx rfl rfl (by decide +kernel) hz k_aci (Nat.le_of_ble_eq_true rfl) (Nat.le_of_ble_eq_true rfl) (Nat.le_of_ble_eq_true rfl) d_M_init_295 rfl (fun r54 => ?_)
  replace hz := zHz_s hz
  refine k_putr (ad := zAd [q0, q1, q2, q3, q4, q5, q6, q7, q8, q9, q10, q11, q12, q13, q14, q15, q16, q17, q18, q19, q20, q21, q22, q23, q24, q25, q26, q27, q28, q29, q30, q31, q32, q33, q34, q35, q36, q37, q38, q39, q40, q41, r42, r43, r44, r45, r46, r47, r48, r49, r50, r51, r52, r53, r54]) (Ls := kL_117) (Ls' := kL_118) (r := 54) cx hin 41 19 tyX11 tyX11_ok nmX11 rfl (by decide) rfl (by decide) inX11 fl_M_50 rfl rfl (tyX11_ok 19 (by decide)) rfl rfl d_M_init_297 rfl ?_
  refine v_aload_n cx 0 d_M_init_300 rfl rfl ?_
  refine v_ldc (x := 68880) cx ct_M_53 d_M_init_301 ?_
  refine k_newi (qs := [q0, q1, q2, q3, q4, q5, q6, q7, q8, q9, q10, q11, q12, q13, q14, q15, q16, q17, q18, q19, q20, q21, q22, q23, q24, q25, q26, q27, q28, q29, q30, q31, q32, q33, q34, q35, q36, q37, q38, q39, q40, q41, r42, r43, r44, r45, r46, r47, r48, r49, r50, r51, r52, r53, r54]) (Ls := kL_118) (Ls' := kL_119) (N := 68880) cx rfl rfl (by decide +kernel) hz k_aci (Nat.le_of_ble_eq_true rfl) (Nat.le_of_ble_eq_true rfl) (Nat.le_of_ble_eq_true rfl) d_M_init_303 rfl (fun r55 => ?_)
  replace hz := zHz_s hz
  refine k_putr (ad := zAd [q0, q1, q2, q3, q4, q5, q6, q7, q8, q9, q10, q11, q12, q13, q14, q15, q16, q17, q18, q19, q20, q21, q22, q23, q24, q25, q26, q27, q28, q29, q30, q31, q32, q33, q34, q35, q36, q37, q38, q39, q40, q41, r42, r43, r44, r45, r46, r47, r48, r49, r50, r51, r52, r53, r54, r55]) (Ls := kL_119) (Ls' := kL_120) (r := 55) cx hin 41 21 tyX11 tyX11_ok nmX11 rfl (by decide) rfl (by decide) inX11 fl_M_54 rfl rfl (tyX11_ok 21 (by decide)) rfl rfl d_M_init_305 rfl ?_
  refine v_aload_n cx 0 d_M_init_308 rfl rfl ?_
  refine v_bipush cx (by decide) d_M_init_309 ?_
  refine k_newi (qs := [q0, q1, q2, q3, q4, q5, q6, q7, q8, q9, q10, q11, q12, q13, q14, q15, q16, q17, q18, q19, q20, q21, q22, q23, q24, q25, q26, q27, q28, q29, q30, q31, q32, q33, q34, q35, q36, q37, q38, q39, q40, q41, r42, r43, r44, r45, r46, r47, r48, r49, r50, r51, r52, r53, r54, r55]) (Ls := kL_120) (Ls' := kL_121) (N := 40) cx rfl rfl (by decide +kernel) hz k_aci (Nat.le_of_ble_eq_true rfl) (Nat.le_of_ble_eq_true rfl) (Nat.le_of_ble_eq_true rfl) d_M_init_311 rfl (fun r56 => ?_)
  replace hz := zHz_s hz
  refine k_putr (ad := zAd [q0, q1, q2, q3, q4, q5, q6, q7, q8, q9, q10, q11, q12, q13, q14, q15, q16, q17, q18, q19, q20, q21, q22, q23, q24, q25, q26, q27, q28, q29, q30, q31, q32, q33, q34, q35, q36, q37, q38, q39, q40, q41, r42, r43, r44, r45, r46, r47, r48, r49, r50, r51, r52, r53, r54, r55, r56]) (Ls := kL_121) (Ls' := kL_122) (r := 56) cx hin 41 22 tyX11 tyX11_ok nmX11 rfl (by decide) rfl (by decide) inX11 fl_M_57 rfl rfl (tyX11_ok 22 (by decide)) rfl rfl d_M_init_313 rfl ?_
  refine v_aload_n cx 0 d_M_init_316 rfl rfl ?_
  refine v_bipush cx (by decide) d_M_init_317 ?_
  refine k_newi (qs := [q0, q1, q2, q3, q4, q5, q6, q7, q8, q9, q10, q11, q12, q13, q14, q15, q16, q17, q18, q19, q20, q21, q22, q23, q24, q25, q26, q27, q28, q29, q30, q31, q32, q33, q34, q35, q36, q37, q38, q39, q40, q41, r42, r43, r44, r45, r46, r47, r48, r49, r50, r51, r52, r53, r54, r55, r56]) (Ls := kL_122) (Ls' := kL_123) (N := 6) cx rfl rfl (by decide +kernel) hz k_aci (Nat.le_of_ble_eq_true rfl) (Nat.le_of_ble_eq_true rfl) (Nat.le_of_ble_eq_true rfl) d_M_init_319 rfl (fun r57 => ?_)
  replace hz := zHz_s hz
  refine k_putr (ad := zAd [q0, q1, q2, q3, q4, q5, q6, q7, q8, q9, q10, q11, q12, q13, q14, q15, q16, q17, q18, q19, q20, q21, q22, q23, q24, q25, q26, q27, q28, q29, q30, q31, q32, q33, q34, q35, q36, q37, q38, q39, q40, q41, r42, r43, r44, r45, r46, r47, r48, r49, r50, r51, r52, r53, r54, r55, r56, r57]) (Ls := kL_123) (Ls' := kL_124) (r := 57) cx hin 41 23 tyX11 tyX11_ok nmX11 rfl (by decide) rfl (by decide) inX11 fl_M_60 rfl rfl (tyX11_ok 23 (by decide)) rfl rfl d_M_init_321 rfl ?_
  refine v_aload_n cx 0 d_M_init_324 rfl rfl ?_
  refine v_bipush cx (by decide) d_M_init_325 ?_
  refine k_newi (qs := [q0, q1, q2, q3, q4, q5, q6, q7, q8, q9, q10, q11, q12, q13, q14, q15, q16, q17, q18, q19, q20, q21, q22, q23, q24, q25, q26, q27, q28, q29, q30, q31, q32, q33, q34, q35, q36, q37, q38, q39, q40, q41, r42, r43, r44, r45, r46, r47, r48, r49, r50, r51, r52, r53, r54, r55, r56, r57]) (Ls := kL_124) (Ls' := kL_125) (N := 36) cx rfl rfl (by decide +kernel) hz k_aci (Nat.le_of_ble_eq_true rfl) (Nat.le_of_ble_eq_true rfl) (Nat.le_of_ble_eq_true rfl) d_M_init_327 rfl (fun r58 => ?_)
  replace hz := zHz_s hz
  refine k_putr (ad := zAd [q0, q1, q2, q3, q4, q5, q6, q7, q8, q9, q10, q11, q12, q13, q14, q15, q16, q17, q18, q19, q20, q21, q22, q23, q24, q25, q26, q27, q28, q29, q30, q31, q32, q33, q34, q35, q36, q37, q38, q39, q40, q41, r42, r43, r44, r45, r46, r47, r48, r49, r50, r51, r52, r53, r54, r55, r56, r57, r58]) (Ls := kL_125) (Ls' := kL_126) (r := 58) cx hin 41 25 tyX11 tyX11_ok nmX11 rfl (by decide) rfl (by decide) inX11 fl_M_63 rfl rfl (tyX11_ok 25 (by decide)) rfl rfl d_M_init_329 rfl ?_
  refine v_aload_n cx 0 d_M_init_332 rfl rfl ?_
  refine v_bipush cx (by decide) d_M_init_333 ?_
  refine k_newi (qs := [q0, q1, q2, q3, q4, q5, q6, q7, q8, q9, q10, q11, q12, q13, q14, q15, q16, q17, q18, q19, q20, q21, q22, q23, q24, q25, q26, q27, q28, q29, q30, q31, q32, q33, q34, q35, q36, q37, q38, q39, q40, q41, r42, r43, r44, r45, r46, r47, r48, r49, r50, r51, r52, r53, r54, r55, r56, r57, r58]) (Ls := kL_126) (Ls' := kL_127) (N := 81) cx rfl rfl (by decide +kernel) hz k_aci (Nat.le_of_ble_eq_true rfl) (Nat.le_of_ble_eq_true rfl) (Nat.le_of_ble_eq_true rfl) d_M_init_335 rfl (fun r59 => ?_)
  replace hz := zHz_s hz
  refine k_putr (ad := zAd [q0, q1, q2, q3, q4, q5, q6, q7, q8, q9, q10, q11, q12, q13, q14, q15, q16, q17, q18, q19, q20, q21, q22, q23, q24, q25, q26, q27, q28, q29, q30, q31, q32, q33, q34, q35, q36, q37, q38, q39, q40, q41, r42, r43, r44, r45, r46, r47, r48, r49, r50, r51, r52, r53, r54, r55, r56, r57, r58, r59]) (Ls := kL_127) (Ls' := kL_128) (r := 59) cx hin 41 27 tyX11 tyX11_ok nmX11 rfl (by decide) rfl (by decide) inX11 fl_M_66 rfl rfl (tyX11_ok 27 (by decide)) rfl rfl d_M_init_337 rfl ?_
  refine v_aload_n cx 0 d_M_init_340 rfl rfl ?_
  refine v_iconst cx d_M_init_341 ?_
  refine v_puti (o := 41) (a := (-1)) (ad := zAd [q0, q1, q2, q3, q4, q5, q6, q7, q8, q9, q10, q11, q12, q13, q14, q15, q16, q17, q18, q19, q20, q21, q22, q23, q24, q25, q26, q27, q28, q29, q30, q31, q32, q33, q34, q35, q36, q37, q38, q39, q40, q41, r42, r43, r44, r45, r46, r47, r48, r49, r50, r51, r52, r53, r54, r55, r56, r57, r58, r59]) (Ls := kL_128) cx 28 tyX11 tyX11_ok nmX11 rfl rfl rfl (by decide) inX11 fl_M_69 rfl (tyX11_ok 28 (by decide)) rfl rfl ⟨by decide, by decide⟩ d_M_init_342 ?_
  replace hz := zHz_U (u := 41) (k := 28) (v := (-1)) hz (by decide)
  refine v_aload_n cx 0 d_M_init_345 rfl rfl ?_
  refine v_iconst cx d_M_init_346 ?_
  refine v_puti (o := 41) (a := (-1)) (ad := zAd [q0, q1, q2, q3, q4, q5, q6, q7, q8, q9, q10, q11, q12, q13, q14, q15, q16, q17, q18, q19, q20, q21, q22, q23, q24, q25, q26, q27, q28, q29, q30, q31, q32, q33, q34, q35, q36, q37, q38, q39, q40, q41, r42, r43, r44, r45, r46, r47, r48, r49, r50, r51, r52, r53, r54, r55, r56, r57, r58, r59]) (Ls := kL_128) cx 29 tyX11 tyX11_ok nmX11 rfl rfl rfl (by decide) inX11 fl_M_72 rfl (tyX11_ok 29 (by decide)) rfl rfl ⟨by decide, by decide⟩ d_M_init_347 ?_
  replace hz := zHz_U (u := 41) (k := 29) (v := (-1)) hz (by decide)
  refine v_aload_n cx 0 d_M_init_350 rfl rfl ?_
  refine v_sipush cx (by decide) d_M_init_351 ?_
  refine k_newi (qs := [q0, q1, q2, q3, q4, q5, q6, q7, q8, q9, q10, q11, q12, q13, q14, q15, q16, q17, q18, q19, q20, q21, q22, q23, q24, q25, q26, q27, q28, q29, q30, q31, q32, q33, q34, q35, q36, q37, q38, q39, q40, q41, r42, r43, r44, r45, r46, r47, r48, r49, r50, r51, r52, r53, r54, r55, r56, r57, r58, r59]) (Ls := kL_128) (Ls' := kL_129) (N := 700) cx rfl rfl (by decide +kernel) hz k_aci (Nat.le_of_ble_eq_true rfl) (Nat.le_of_ble_eq_true rfl) (Nat.le_of_ble_eq_true rfl) d_M_init_354 rfl (fun r60 => ?_)
  replace hz := zHz_s hz
  refine k_putr (ad := zAd [q0, q1, q2, q3, q4, q5, q6, q7, q8, q9, q10, q11, q12, q13, q14, q15, q16, q17, q18, q19, q20, q21, q22, q23, q24, q25, q26, q27, q28, q29, q30, q31, q32, q33, q34, q35, q36, q37, q38, q39, q40, q41, r42, r43, r44, r45, r46, r47, r48, r49, r50, r51, r52, r53, r54, r55, r56, r57, r58, r59, r60]) (Ls := kL_129) (Ls' := kL_130) (r := 60) cx hin 41 30 tyX11 tyX11_ok nmX11 rfl (by decide) rfl (by decide) inX11 fl_M_75 rfl rfl (tyX11_ok 30 (by decide)) rfl rfl d_M_init_356 rfl ?_
  refine v_aload_n cx 0 d_M_init_359 rfl rfl ?_
  refine v_sipush cx (by decide) d_M_init_360 ?_
  refine k_newi (qs := [q0, q1, q2, q3, q4, q5, q6, q7, q8, q9, q10, q11, q12, q13, q14, q15, q16, q17, q18, q19, q20, q21, q22, q23, q24, q25, q26, q27, q28, q29, q30, q31, q32, q33, q34, q35, q36, q37, q38, q39, q40, q41, r42, r43, r44, r45, r46, r47, r48, r49, r50, r51, r52, r53, r54, r55, r56, r57, r58, r59, r60]) (Ls := kL_130) (Ls' := kL_131) (N := 280) cx rfl rfl (by decide +kernel) hz k_aci (Nat.le_of_ble_eq_true rfl) (Nat.le_of_ble_eq_true rfl) (Nat.le_of_ble_eq_true rfl) d_M_init_363 rfl (fun r61 => ?_)
  replace hz := zHz_s hz
  refine k_putr (ad := zAd [q0, q1, q2, q3, q4, q5, q6, q7, q8, q9, q10, q11, q12, q13, q14, q15, q16, q17, q18, q19, q20, q21, q22, q23, q24, q25, q26, q27, q28, q29, q30, q31, q32, q33, q34, q35, q36, q37, q38, q39, q40, q41, r42, r43, r44, r45, r46, r47, r48, r49, r50, r51, r52, r53, r54, r55, r56, r57, r58, r59, r60, r61]) (Ls := kL_131) (Ls' := kL_132) (r := 61) cx hin 41 31 tyX11 tyX11_ok nmX11 rfl (by decide) rfl (by decide) inX11 fl_M_78 rfl rfl (tyX11_ok 31 (by decide)) rfl rfl d_M_init_365 rfl ?_
  refine v_aload_n cx 0 d_M_init_368 rfl rfl ?_
  refine v_bipush cx (by decide) d_M_init_369 ?_
  refine k_newi (qs := [q0, q1, q2, q3, q4, q5, q6, q7, q8, q9, q10, q11, q12, q13, q14, q15, q16, q17, q18, q19, q20, q21, q22, q23, q24, q25, q26, q27, q28, q29, q30, q31, q32, q33, q34, q35, q36, q37, q38, q39, q40, q41, r42, r43, r44, r45, r46, r47, r48, r49, r50, r51, r52, r53, r54, r55, r56, r57, r58, r59, r60, r61]) (Ls := kL_132) (Ls' := kL_133) (N := 81) cx rfl rfl (by decide +kernel) hz k_aci (Nat.le_of_ble_eq_true rfl) (Nat.le_of_ble_eq_true rfl) (Nat.le_of_ble_eq_true rfl) d_M_init_371 rfl (fun r62 => ?_)
  replace hz := zHz_s hz
  refine k_putr (ad := zAd [q0, q1, q2, q3, q4, q5, q6, q7, q8, q9, q10, q11, q12, q13, q14, q15, q16, q17, q18, q19, q20, q21, q22, q23, q24, q25, q26, q27, q28, q29, q30, q31, q32, q33, q34, q35, q36, q37, q38, q39, q40, q41, r42, r43, r44, r45, r46, r47, r48, r49, r50, r51, r52, r53, r54, r55, r56, r57, r58, r59, r60, r61, r62]) (Ls := kL_133) (Ls' := kL_134) (r := 62) cx hin 41 32 tyX11 tyX11_ok nmX11 rfl (by decide) rfl (by decide) inX11 fl_M_81 rfl rfl (tyX11_ok 32 (by decide)) rfl rfl d_M_init_373 rfl ?_
  refine v_aload_n cx 0 d_M_init_376 rfl rfl ?_
  refine v_bipush cx (by decide) d_M_init_377 ?_
  refine k_newi (qs := [q0, q1, q2, q3, q4, q5, q6, q7, q8, q9, q10, q11, q12, q13, q14, q15, q16, q17, q18, q19, q20, q21, q22, q23, q24, q25, q26, q27, q28, q29, q30, q31, q32, q33, q34, q35, q36, q37, q38, q39, q40, q41, r42, r43, r44, r45, r46, r47, r48, r49, r50, r51, r52, r53, r54, r55, r56, r57, r58, r59, r60, r61, r62]) (Ls := kL_134) (Ls' := kL_135) (N := 81) cx rfl rfl (by decide +kernel) hz k_aci (Nat.le_of_ble_eq_true rfl) (Nat.le_of_ble_eq_true rfl) (Nat.le_of_ble_eq_true rfl) d_M_init_379 rfl (fun r63 => ?_)
  replace hz := zHz_s hz
  refine k_putr (ad := zAd [q0, q1, q2, q3, q4, q5, q6, q7, q8, q9, q10, q11, q12, q13, q14, q15, q16, q17, q18, q19, q20, q21, q22, q23, q24, q25, q26, q27, q28, q29, q30, q31, q32, q33, q34, q35, q36, q37, q38, q39, q40, q41, r42, r43, r44, r45, r46, r47, r48, r49, r50, r51, r52, r53, r54, r55, r56, r57, r58, r59, r60, r61, r62, r63]) (Ls := kL_135) (Ls' := kL_136) (r := 63) cx hin 41 33 tyX11 tyX11_ok nmX11 rfl (by decide) rfl (by decide) inX11 fl_M_84 rfl rfl (tyX11_ok 33 (by decide)) rfl rfl d_M_init_381 rfl ?_
  refine v_iconst cx d_M_init_384 ?_
  refine v_istore_n (lv' := [(0, .ref q41), (1, .int (zI 0))]) cx d_M_init_385 rfl (by decide) rfl rfl ?_
  refine v_iload_n cx 1 d_M_init_386 rfl rfl ?_
  refine v_bipush cx (by decide) d_M_init_387 ?_
  refine v_icmp_ge cx 412 d_M_init_389 (by decide) ⟨by decide, by decide⟩ ⟨by decide, by decide⟩ (fun c => absurd c (by decide)) (fun _ => ?_)
  refine v_aload_n cx 0 d_M_init_392 rfl rfl ?_
  refine v_getr (o := 41) (r := 42) (ad := zAd [q0, q1, q2, q3, q4, q5, q6, q7, q8, q9, q10, q11, q12, q13, q14, q15, q16, q17, q18, q19, q20, q21, q22, q23, q24, q25, q26, q27, q28, q29, q30, q31, q32, q33, q34, q35, q36, q37, q38, q39, q40, q41, r42, r43, r44, r45, r46, r47, r48, r49, r50, r51, r52, r53, r54, r55, r56, r57, r58, r59, r60, r61, r62, r63]) (Ls := kL_136) cx 1 rfl rfl rfl (by decide) inX11 fl_M_7 d_M_init_393 ?_
  refine v_iconst cx d_M_init_396 ?_
  refine v_iload_n cx 1 d_M_init_397 rfl rfl ?_
  refine v_iadd cx d_M_init_398 ?_
  refine v_aload_n cx 0 d_M_init_399 rfl rfl ?_
  refine v_getr (o := 41) (r := 45) (ad := zAd [q0, q1, q2, q3, q4, q5, q6, q7, q8, q9, q10, q11, q12, q13, q14, q15, q16, q17, q18, q19, q20, q21, q22, q23, q24, q25, q26, q27, q28, q29, q30, q31, q32, q33, q34, q35, q36, q37, q38, q39, q40, q41, r42, r43, r44, r45, r46, r47, r48, r49, r50, r51, r52, r53, r54, r55, r56, r57, r58, r59, r60, r61, r62, r63]) (Ls := kL_136) cx 6 rfl rfl rfl (by decide) inX11 fl_M_19 d_M_init_400 ?_
  refine v_iload_n cx 1 d_M_init_403 rfl rfl ?_
  refine v_iald (o := 45) (N := 11) (i := 0) (ad := zAd [q0, q1, q2, q3, q4, q5, q6, q7, q8, q9, q10, q11, q12, q13, q14, q15, q16, q17, q18, q19, q20, q21, q22, q23, q24, q25, q26, q27, q28, q29, q30, q31, q32, q33, q34, q35, q36, q37, q38, q39, q40, q41, r42, r43, r44, r45, r46, r47, r48, r49, r50, r51, r52, r53, r54, r55, r56, r57, r58, r59, r60, r61, r62, r63]) (Ls := kL_136) cx rfl (by decide) (by decide) (by decide) d_M_init_404 (fun _ => ?_)
  refine v_nm (fun x ex => ?_)
  obtain rfl : x = 20 := ex.trans rfl
  clear ex
  refine v_iast (o := 42) (N := 499) (i := 2 + 0) (a := 20) (ad := zAd [q0, q1, q2, q3, q4, q5, q6, q7, q8, q9, q10, q11, q12, q13, q14, q15, q16, q17, q18, q19, q20, q21, q22, q23, q24, q25, q26, q27, q28, q29, q30, q31, q32, q33, q34, q35, q36, q37, q38, q39, q40, q41, r42, r43, r44, r45, r46, r47, r48, r49, r50, r51, r52, r53, r54, r55, r56, r57, r58, r59, r60, r61, r62, r63]) (Ls := kL_136) cx rfl (by decide) (by decide) (by decide) ⟨by decide, by decide⟩ d_M_init_405 ?_
  refine v_iinc (lv' := [(0, .ref q41), (1, .int (zI 1))]) cx 1 d_M_init_406 rfl (by decide) rfl rfl ?_
  refine v_goto cx 386 d_M_init_409 (by decide) ?_
  refine v_iload_n cx 1 d_M_init_386 rfl rfl ?_
  refine v_bipush cx (by decide) d_M_init_387 ?_
  refine v_icmp_ge cx 412 d_M_init_389 (by decide) ⟨by decide, by decide⟩ ⟨by decide, by decide⟩ (fun c => absurd c (by decide)) (fun _ => ?_)
  refine v_aload_n cx 0 d_M_init_392 rfl rfl ?_
  refine v_getr (o := 41) (r := 42) (ad := zAd [q0, q1, q2, q3, q4, q5, q6, q7, q8, q9, q10, q11, q12, q13, q14, q15, q16, q17, q18, q19, q20, q21, q22, q23, q24, q25, q26, q27, q28, q29, q30, q31, q32, q33, q34, q35, q36, q37, q38, q39, q40, q41, r42, r43, r44, r45, r46, r47, r48, r49, r50, r51, r52, r53, r54, r55, r56, r57, r58, r59, r60, r61, r62, r63]) (Ls := kL_136) cx 1 rfl rfl rfl (by decide) inX11 fl_M_7 d_M_init_393 ?_
  refine v_iconst cx d_M_init_396 ?_
  refine v_iload_n cx 1 d_M_init_397 rfl rfl ?_
  refine v_iadd cx d_M_init_398 ?_
  refine v_aload_n cx 0 d_M_init_399 rfl rfl ?_
  refine v_getr (o := 41) (r := 45) (ad := zAd [q0, q1, q2, q3, q4, q5, q6, q7, q8, q9, q10, q11, q12, q13, q14, q15, q16, q17, q18, q19, q20, q21, q22, q23, q24, q25, q26, q27, q28, q29, q30, q31, q32, q33, q34, q35, q36, q37, q38, q39, q40, q41, r42, r43, r44, r45, r46, r47, r48, r49, r50, r51, r52, r53, r54, r55, r56, r57, r58, r59, r60, r61, r62, r63]) (Ls := kL_136) cx 6 rfl rfl rfl (by decide) inX11 fl_M_19 d_M_init_400 ?_
  refine v_iload_n cx 1 d_M_init_403 rfl rfl ?_
  refine v_iald (o := 45) (N := 11) (i := 1) (ad := zAd [q0, q1, q2, q3, q4, q5, q6, q7, q8, q9, q10, q11, q12, q13, q14, q15, q16, q17, q18, q19, q20, q21, q22, q23, q24, q25, q26, q27, q28, q29, q30, q31, q32, q33, q34, q35, q36, q37, q38, q39, q40, q41, r42, r43, r44, r45, r46, r47, r48, r49, r50, r51, r52, r53, r54, r55, r56, r57, r58, r59, r60, r61, r62, r63]) (Ls := kL_136) cx rfl (by decide) (by decide) (by decide) d_M_init_404 (fun _ => ?_)
  refine v_nm (fun x ex => ?_)
  obtain rfl : x = 1 := ex.trans rfl
  clear ex
  refine v_iast (o := 42) (N := 499) (i := 2 + 1) (a := 1) (ad := zAd [q0, q1, q2, q3, q4, q5, q6, q7, q8, q9, q10, q11, q12, q13, q14, q15, q16, q17, q18, q19, q20, q21, q22, q23, q24, q25, q26, q27, q28, q29, q30, q31, q32, q33, q34, q35, q36, q37, q38, q39, q40, q41, r42, r43, r44, r45, r46, r47, r48, r49, r50, r51, r52, r53, r54, r55, r56, r57, r58, r59, r60, r61, r62, r63]) (Ls := kL_136) cx rfl (by decide) (by decide) (by decide) ⟨by decide, by decide⟩ d_M_init_405 ?_
  refine v_iinc (lv' := [(0, .ref q41), (1, .int (zI 2))]) cx 1 d_M_init_406 rfl (by decide) rfl rfl ?_
  refine v_goto cx 386 d_M_init_409 (by decide) ?_
  refine v_iload_n cx 1 d_M_init_386 rfl rfl ?_
  refine v_bipush cx (by decide) d_M_init_387 ?_
  refine v_icmp_ge cx 412 d_M_init_389 (by decide) ⟨by decide, by decide⟩ ⟨by decide, by decide⟩ (fun c => absurd c (by decide)) (fun _ => ?_)
  refine v_aload_n cx 0 d_M_init_392 rfl rfl ?_
  refine v_getr (o := 41) (r := 42) (ad := zAd [q0, q1, q2, q3, q4, q5, q6, q7, q8, q9, q10, q11, q12, q13, q14, q15, q16, q17, q18, q19, q20, q21, q22, q23, q24, q25, q26, q27, q28, q29, q30, q31, q32, q33, q34, q35, q36, q37, q38, q39, q40, q41, r42, r43, r44, r45, r46, r47, r48, r49, r50, r51, r52, r53, r54, r55, r56, r57, r58, r59, r60, r61, r62, r63]) (Ls := kL_136) cx 1 rfl rfl rfl (by decide) inX11 fl_M_7 d_M_init_393 ?_
  refine v_iconst cx d_M_init_396 ?_
  refine v_iload_n cx 1 d_M_init_397 rfl rfl ?_
  refine v_iadd cx d_M_init_398 ?_
  refine v_aload_n cx 0 d_M_init_399 rfl rfl ?_
  refine v_getr (o := 41) (r := 45) (ad := zAd [q0, q1, q2, q3, q4, q5, q6, q7, q8, q9, q10, q11, q12, q13, q14, q15, q16, q17, q18, q19, q20, q21, q22, q23, q24, q25, q26, q27, q28, q29, q30, q31, q32, q33, q34, q35, q36, q37, q38, q39, q40, q41, r42, r43, r44, r45, r46, r47, r48, r49, r50, r51, r52, r53, r54, r55, r56, r57, r58, r59, r60, r61, r62, r63]) (Ls := kL_136) cx 6 rfl rfl rfl (by decide) inX11 fl_M_19 d_M_init_400 ?_
  refine v_iload_n cx 1 d_M_init_403 rfl rfl ?_
  refine v_iald (o := 45) (N := 11) (i := 2) (ad := zAd [q0, q1, q2, q3, q4, q5, q6, q7, q8, q9, q10, q11, q12, q13, q14, q15, q16, q17, q18, q19, q20, q21, q22, q23, q24, q25, q26, q27, q28, q29, q30, q31, q32, q33, q34, q35, q36, q37, q38, q39, q40, q41, r42, r43, r44, r45, r46, r47, r48, r49, r50, r51, r52, r53, r54, r55, r56, r57, r58, r59, r60, r61, r62, r63]) (Ls := kL_136) cx rfl (by decide) (by decide) (by decide) d_M_init_404 (fun _ => ?_)
  refine v_nm (fun x ex => ?_)
  obtain rfl : x = 2 := ex.trans rfl
  clear ex
  refine v_iast (o := 42) (N := 499) (i := 2 + 2) (a := 2) (ad := zAd [q0, q1, q2, q3, q4, q5, q6, q7, q8, q9, q10, q11, q12, q13, q14, q15, q16, q17, q18, q19, q20, q21, q22, q23, q24, q25, q26, q27, q28, q29, q30, q31, q32, q33, q34, q35, q36, q37, q38, q39, q40, q41, r42, r43, r44, r45, r46, r47, r48, r49, r50, r51, r52, r53, r54, r55, r56, r57, r58, r59, r60, r61, r62, r63]) (Ls := kL_136) cx rfl (by decide) (by decide) (by decide) ⟨by decide, by decide⟩ d_M_init_405 ?_
  refine v_iinc (lv' := [(0, .ref q41), (1, .int (zI 3))]) cx 1 d_M_init_406 rfl (by decide) rfl rfl ?_
  refine v_goto cx 386 d_M_init_409 (by decide) ?_
  refine v_iload_n cx 1 d_M_init_386 rfl rfl ?_
  refine v_bipush cx (by decide) d_M_init_387 ?_
  refine v_icmp_ge cx 412 d_M_init_389 (by decide) ⟨by decide, by decide⟩ ⟨by decide, by decide⟩ (fun c => absurd c (by decide)) (fun _ => ?_)
  refine v_aload_n cx 0 d_M_init_392 rfl rfl ?_
  refine v_getr (o := 41) (r := 42) (ad := zAd [q0, q1, q2, q3, q4, q5, q6, q7, q8, q9, q10, q11, q12, q13, q14, q15, q16, q17, q18, q19, q20, q21, q22, q23, q24, q25, q26, q27, q28, q29, q30, q31, q32, q33, q34, q35, q36, q37, q38, q39, q40, q41, r42, r43, r44, r45, r46, r47, r48, r49, r50, r51, r52, r53, r54, r55, r56, r57, r58, r59, r60, r61, r62, r63]) (Ls := kL_136) cx 1 rfl rfl rfl (by decide) inX11 fl_M_7 d_M_init_393 ?_
  refine v_iconst cx d_M_init_396 ?_
  refine v_iload_n cx 1 d_M_init_397 rfl rfl ?_
  refine v_iadd cx d_M_init_398 ?_
  refine v_aload_n cx 0 d_M_init_399 rfl rfl ?_
  refine v_getr (o := 41) (r := 45) (ad := zAd [q0, q1, q2, q3, q4, q5, q6, q7, q8, q9, q10, q11, q12, q13, q14, q15, q16, q17, q18, q19, q20, q21, q22, q23, q24, q25, q26, q27, q28, q29, q30, q31, q32, q33, q34, q35, q36, q37, q38, q39, q40, q41, r42, r43, r44, r45, r46, r47, r48, r49, r50, r51, r52, r53, r54, r55, r56, r57, r58, r59, r60, r61, r62, r63]) (Ls := kL_136) cx 6 rfl rfl rfl (by decide) inX11 fl_M_19 d_M_init_400 ?_
  refine v_iload_n cx 1 d_M_init_403 rfl rfl ?_
  refine v_iald (o := 45) (N := 11) (i := 3) (ad := zAd [q0, q1, q2, q3, q4, q5, q6, q7, q8, q9, q10, q11, q12, q13, q14, q15, q16, q17, q18, q19, q20, q21, q22, q23, q24, q25, q26, q27, q28, q29, q30, q31, q32, q33, q34, q35, q36, q37, q38, q39, q40, q41, r42, r43, r44, r45, r46, r47, r48, r49, r50, r51, r52, r53, r54, r55, r56, r57, r58, r59, r60, r61, r62, r63]) (Ls := kL_136) cx rfl (by decide) (by decide) (by decide) d_M_init_404 (fun _ => ?_)
  refine v_nm (fun x ex => ?_)
  obtain rfl : x = 2 := ex.trans rfl
  clear ex
  refine v_iast (o := 42) (N := 499) (i := 2 + 3) (a := 2) (ad := zAd [q0, q1, q2, q3, q4, q5, q6, q7, q8, q9, q10, q11, q12, q13, q14, q15, q16, q17, q18, q19, q20, q21, q22, q23, q24, q25, q26, q27, q28, q29, q30, q31, q32, q33, q34, q35, q36, q37, q38, q39, q40, q41, r42, r43, r44, r45, r46, r47, r48, r49, r50, r51, r52, r53, r54, r55, r56, r57, r58, r59, r60, r61, r62, r63]) (Ls := kL_136) cx rfl (by decide) (by decide) (by decide) ⟨by decide, by decide⟩ d_M_init_405 ?_
  refine v_iinc (lv' := [(0, .ref q41), (1, .int (zI 4))]) cx 1 d_M_init_406 rfl (by decide) rfl rfl ?_
  refine v_goto cx 386 d_M_init_409 (by decide) ?_
  refine v_iload_n cx 1 d_M_init_386 rfl rfl ?_
  refine v_bipush cx (by decide) d_M_init_387 ?_
  refine v_icmp_ge cx 412 d_M_init_389 (by decide) ⟨by decide, by decide⟩ ⟨by decide, by decide⟩ (fun c => absurd c (by decide)) (fun _ => ?_)
  refine v_aload_n cx 0 d_M_init_392 rfl rfl ?_
  refine v_getr (o := 41) (r := 42) (ad := zAd [q0, q1, q2, q3, q4, q5, q6, q7, q8, q9, q10, q11, q12, q13, q14, q15, q16, q17, q18, q19, q20, q21, q22, q23, q24, q25, q26, q27, q28, q29, q30, q31, q32, q33, q34, q35, q36, q37, q38, q39, q40, q41, r42, r43, r44, r45, r46, r47, r48, r49, r50, r51, r52, r53, r54, r55, r56, r57, r58, r59, r60, r61, r62, r63]) (Ls := kL_136) cx 1 rfl rfl rfl (by decide) inX11 fl_M_7 d_M_init_393 ?_
  refine v_iconst cx d_M_init_396 ?_
  refine v_iload_n cx 1 d_M_init_397 rfl rfl ?_
  refine v_iadd cx d_M_init_398 ?_
  refine v_aload_n cx 0 d_M_init_399 rfl rfl ?_
  refine v_getr (o := 41) (r := 45) (ad := zAd [q0, q1, q2, q3, q4, q5, q6, q7, q8, q9, q10, q11, q12, q13, q14, q15, q16, q17, q18, q19, q20, q21, q22, q23, q24, q25, q26, q27, q28, q29, q30, q31, q32, q33, q34, q35, q36, q37, q38, q39, q40, q41, r42, r43, r44, r45, r46, r47, r48, r49, r50, r51, r52, r53, r54, r55, r56, r57, r58, r59, r60, r61, r62, r63]) (Ls := kL_136) cx 6 rfl rfl rfl (by decide) inX11 fl_M_19 d_M_init_400 ?_
  refine v_iload_n cx 1 d_M_init_403 rfl rfl ?_
  refine v_iald (o := 45) (N := 11) (i := 4) (ad := zAd [q0, q1, q2, q3, q4, q5, q6, q7, q8, q9, q10, q11, q12, q13, q14, q15, q16, q17, q18, q19, q20, q21, q22, q23, q24, q25, q26, q27, q28, q29, q30, q31, q32, q33, q34, q35, q36, q37, q38, q39, q40, q41, r42, r43, r44, r45, r46, r47, r48, r49, r50, r51, r52, r53, r54, r55, r56, r57, r58, r59, r60, r61, r62, r63]) (Ls := kL_136) cx rfl (by decide) (by decide) (by decide) d_M_init_404 (fun _ => ?_)
  refine v_nm (fun x ex => ?_)
  obtain rfl : x = 1 := ex.trans rfl
  clear ex
  refine v_iast (o := 42) (N := 499) (i := 2 + 4) (a := 1) (ad := zAd [q0, q1, q2, q3, q4, q5, q6, q7, q8, q9, q10, q11, q12, q13, q14, q15, q16, q17, q18, q19, q20, q21, q22, q23, q24, q25, q26, q27, q28, q29, q30, q31, q32, q33, q34, q35, q36, q37, q38, q39, q40, q41, r42, r43, r44, r45, r46, r47, r48, r49, r50, r51, r52, r53, r54, r55, r56, r57, r58, r59, r60, r61, r62, r63]) (Ls := kL_136) cx rfl (by decide) (by decide) (by decide) ⟨by decide, by decide⟩ d_M_init_405 ?_
  refine v_iinc (lv' := [(0, .ref q41), (1, .int (zI 5))]) cx 1 d_M_init_406 rfl (by decide) rfl rfl ?_
  refine v_goto cx 386 d_M_init_409 (by decide) ?_
  refine v_iload_n cx 1 d_M_init_386 rfl rfl ?_
  refine v_bipush cx (by decide) d_M_init_387 ?_
  refine v_icmp_ge cx 412 d_M_init_389 (by decide) ⟨by decide, by decide⟩ ⟨by decide, by decide⟩ (fun c => absurd c (by decide)) (fun _ => ?_)
  refine v_aload_n cx 0 d_M_init_392 rfl rfl ?_
  refine v_getr (o := 41) (r := 42) (ad := zAd [q0, q1, q2, q3, q4, q5, q6, q7, q8, q9, q10, q11, q12, q13, q14, q15, q16, q17, q18, q19, q20, q21, q22, q23, q24, q25, q26, q27, q28, q29, q30, q31, q32, q33, q34, q35, q36, q37, q38, q39, q40, q41, r42, r43, r44, r45, r46, r47, r48, r49, r50, r51, r52, r53, r54, r55, r56, r57, r58, r59, r60, r61, r62, r63]) (Ls := kL_136) cx 1 rfl rfl rfl (by decide) inX11 fl_M_7 d_M_init_393 ?_
  refine v_iconst cx d_M_init_396 ?_
  refine v_iload_n cx 1 d_M_init_397 rfl rfl ?_
  refine v_iadd cx d_M_init_398 ?_
  refine v_aload_n cx 0 d_M_init_399 rfl rfl ?_
  refine v_getr (o := 41) (r := 45) (ad := zAd [q0, q1, q2, q3, q4, q5, q6, q7, q8, q9, q10, q11, q12, q13, q14, q15, q16, q17, q18, q19, q20, q21, q22, q23, q24, q25, q26, q27, q28, q29, q30, q31, q32, q33, q34, q35, q36, q37, q38, q39, q40, q41, r42, r43, r44, r45, r46, r47, r48, r49, r50, r51, r52, r53, r54, r55, r56, r57, r58, r59, r60, r61, r62, r63]) (Ls := kL_136) cx 6 rfl rfl rfl (by decide) inX11 fl_M_19 d_M_init_400 ?_
  refine v_iload_n cx 1 d_M_init_403 rfl rfl ?_
  refine v_iald (o := 45) (N := 11) (i := 5) (ad := zAd [q0, q1, q2, q3, q4, q5, q6, q7, q8, q9, q10, q11, q12, q13, q14, q15, q16, q17, q18, q19, q20, q21, q22, q23, q24, q25, q26, q27, q28, q29, q30, q31, q32, q33, q34, q35, q36, q37, q38, q39, q40, q41, r42, r43, r44, r45, r46, r47, r48, r49, r50, r51, r52, r53, r54, r55, r56, r57, r58, r59, r60, r61, r62, r63]) (Ls := kL_136) cx rfl (by decide) (by decide) (by decide) d_M_init_404 (fun _ => ?_)
  refine v_nm (fun x ex => ?_)
  obtain rfl : x = 20 := ex.trans rfl
  clear ex
  refine v_iast (o := 42) (N := 499) (i := 2 + 5) (a := 20) (ad := zAd [q0, q1, q2, q3, q4, q5, q6, q7, q8, q9, q10, q11, q12, q13, q14, q15, q16, q17, q18, q19, q20, q21, q22, q23, q24, q25, q26, q27, q28, q29, q30, q31, q32, q33, q34, q35, q36, q37, q38, q39, q40, q41, r42, r43, r44, r45, r46, r47, r48, r49, r50, r51, r52, r53, r54, r55, r56, r57, r58, r59, r60, r61, r62, r63]) (Ls := kL_136) cx rfl (by decide) (by decide) (by decide) ⟨by decide, by decide⟩ d_M_init_405 ?_
  refine v_iinc (lv' := [(0, .ref q41), (1, .int (zI 6))]) cx 1 d_M_init_406 rfl (by decide) rfl rfl ?_
  refine v_goto cx 386 d_M_init_409 (by decide) ?_
  refine v_iload_n cx 1 d_M_init_386 rfl rfl ?_
  refine v_bipush cx (by decide) d_M_init_387 ?_
  refine v_icmp_ge cx 412 d_M_init_389 (by decide) ⟨by decide, by decide⟩ ⟨by decide, by decide⟩ (fun c => absurd c (by decide)) (fun _ => ?_)
  refine v_aload_n cx 0 d_M_init_392 rfl rfl ?_
  refine v_getr (o := 41) (r := 42) (ad := zAd [q0, q1, q2, q3, q4, q5, q6, q7, q8, q9, q10, q11, q12, q13, q14, q15, q16, q17, q18, q19, q20, q21, q22, q23, q24, q25, q26, q27, q28, q29, q30, q31, q32, q33, q34, q35, q36, q37, q38, q39, q40, q41, r42, r43, r44, r45, r46, r47, r48, r49, r50, r51, r52, r53, r54, r55, r56, r57, r58, r59, r60, r61, r62, r63]) (Ls := kL_136) cx 1 rfl rfl rfl (by decide) inX11 fl_M_7 d_M_init_393 ?_
  refine v_iconst cx d_M_init_396 ?_
  refine v_iload_n cx 1 d_M_init_397 rfl rfl ?_
  refine v_iadd cx d_M_init_398 ?_
  refine v_aload_n cx 0 d_M_init_399 rfl rfl ?_
  refine v_getr (o := 41) (r := 45) (ad := zAd [q0, q1, q2, q3, q4, q5, q6, q7, q8, q9, q10, q11, q12, q13, q14, q15, q16, q17, q18, q19, q20, q21, q22, q23, q24, q25, q26, q27, q28, q29, q30, q31, q32, q33, q34, q35, q36, q37, q38, q39, q40, q41, r42, r43, r44, r45, r46, r47, r48, r49, r50, r51, r52, r53, r54, r55, r56, r57, r58, r59, r60, r61, r62, r63]) (Ls := kL_136) cx 6 rfl rfl rfl (by decide) inX11 fl_M_19 d_M_init_400 ?_
  refine v_iload_n cx 1 d_M_init_403 rfl rfl ?_
  refine v_iald (o := 45) (N := 11) (i := 6) (ad := zAd [q0, q1, q2, q3, q4, q5, q6, q7, q8, q9, q10, q11, q12, q13, q14, q15, q16, q17, q18, q19, q20, q21, q22, q23, q24, q25, q26, q27, q28, q29, q30, q31, q32, q33, q34, q35, q36, q37, q38, q39, q40, q41, r42, r43, r44, r45, r46, r47, r48, r49, r50, r51, r52, r53, r54, r55, r56, r57, r58, r59, r60, r61, r62, r63]) (Ls := kL_136) cx rfl (by decide) (by decide) (by decide) d_M_init_404 (fun _ => ?_)
  refine v_nm (fun x ex => ?_)
  obtain rfl : x = 50 := ex.trans rfl
  clear ex
  refine v_iast (o := 42) (N := 499) (i := 2 + 6) (a := 50) (ad := zAd [q0, q1, q2, q3, q4, q5, q6, q7, q8, q9, q10, q11, q12, q13, q14, q15, q16, q17, q18, q19, q20, q21, q22, q23, q24, q25, q26, q27, q28, q29, q30, q31, q32, q33, q34, q35, q36, q37, q38, q39, q40, q41, r42, r43, r44, r45, r46, r47, r48, r49, r50, r51, r52, r53, r54, r55, r56, r57, r58, r59, r60, r61, r62, r63]) (Ls := kL_136) cx rfl (by decide) (by decide) (by decide) ⟨by decide, by decide⟩ d_M_init_405 ?_
  refine v_iinc (lv' := [(0, .ref q41), (1, .int (zI 7))]) cx 1 d_M_init_406 rfl (by decide) rfl rfl ?_
  refine v_goto cx 386 d_M_init_409 (by decide) ?_
  refine v_iload_n cx 1 d_M_init_386 rfl rfl ?_
  refine v_bipush cx (by decide) d_M_init_387 ?_
  refine v_icmp_ge cx 412 d_M_init_389 (by decide) ⟨by decide, by decide⟩ ⟨by decide, by decide⟩ (fun c => absurd c (by decide)) (fun _ => ?_)
  refine v_aload_n cx 0 d_M_init_392 rfl rfl ?_
  refine v_getr (o := 41) (r := 42) (ad := zAd [q0, q1, q2, q3, q4, q5, q6, q7, q8, q9, q10, q11, q12, q13, q14, q15, q16, q17, q18, q19, q20, q21, q22, q23, q24, q25, q26, q27, q28, q29, q30, q31, q32, q33, q34, q35, q36, q37, q38, q39, q40, q41, r42, r43, r44, r45, r46, r47, r48, r49, r50, r51, r52, r53, r54, r55, r56, r57, r58, r59, r60, r61, r62, r63]) (Ls := kL_136) cx 1 rfl rfl rfl (by decide) inX11 fl_M_7 d_M_init_393 ?_
  refine v_iconst cx d_M_init_396 ?_
  refine v_iload_n cx 1 d_M_init_397 rfl rfl ?_
  refine v_iadd cx d_M_init_398 ?_
  refine v_aload_n cx 0 d_M_init_399 rfl rfl ?_
  refine v_getr (o := 41) (r := 45) (ad := zAd [q0, q1, q2, q3, q4, q5, q6, q7, q8, q9, q10, q11, q12, q13, q14, q15, q16, q17, q18, q19, q20, q21, q22, q23, q24, q25, q26, q27, q28, q29, q30, q31, q32, q33, q34, q35, q36, q37, q38, q39, q40, q41, r42, r43, r44, r45, r46, r47, r48, r49, r50, r51, r52, r53, r54, r55, r56, r57, r58, r59, r60, r61, r62, r63]) (Ls := kL_136) cx 6 rfl rfl rfl (by decide) inX11 fl_M_19 d_M_init_400 ?_
  refine v_iload_n cx 1 d_M_init_403 rfl rfl ?_
  refine v_iald (o := 45) (N := 11) (i := 7) (ad := zAd [q0, q1, q2, q3, q4, q5, q6, q7, q8, q9, q10, q11, q12, q13, q14, q15, q16, q17, q18, q19, q20, q21, q22, q23, q24, q25, q26, q27, q28, q29, q30, q31, q32, q33, q34, q35, q36, q37, q38, q39, q40, q41, r42, r43, r44, r45, r46, r47, r48, r49, r50, r51, r52, r53, r54, r55, r56, r57, r58, r59, r60, r61, r62, r63]) (Ls := kL_136) cx rfl (by decide) (by decide) (by decide) d_M_init_404 (fun _ => ?_)
  refine v_nm (fun x ex => ?_)
  obtain rfl : x = 1 := ex.trans rfl
  clear ex
  refine v_iast (o := 42) (N := 499) (i := 2 + 7) (a := 1) (ad := zAd [q0, q1, q2, q3, q4, q5, q6, q7, q8, q9, q10, q11, q12, q13, q14, q15, q16, q17, q18, q19, q20, q21, q22, q23, q24, q25, q26, q27, q28, q29, q30, q31, q32, q33, q34, q35, q36, q37, q38, q39, q40, q41, r42, r43, r44, r45, r46, r47, r48, r49, r50, r51, r52, r53, r54, r55, r56, r57, r58, r59, r60, r61, r62, r63]) (Ls := kL_136) cx rfl (by decide) (by decide) (by decide) ⟨by decide, by decide⟩ d_M_init_405 ?_
  refine v_iinc (lv' := [(0, .ref q41), (1, .int (zI 8))]) cx 1 d_M_init_406 rfl (by decide) rfl rfl ?_
  refine v_goto cx 386 d_M_init_409 (by decide) ?_
  refine v_iload_n cx 1 d_M_init_386 rfl rfl ?_
  refine v_bipush cx (by decide) d_M_init_387 ?_
  refine v_icmp_ge cx 412 d_M_init_389 (by decide) ⟨by decide, by decide⟩ ⟨by decide, by decide⟩ (fun c => absurd c (by decide)) (fun _ => ?_)
  refine v_aload_n cx 0 d_M_init_392 rfl rfl ?_
  refine v_getr (o := 41) (r := 42) (ad := zAd [q0, q1, q2, q3, q4, q5, q6, q7, q8, q9, q10, q11, q12, q13, q14, q15, q16, q17, q18, q19, q20, q21, q22, q23, q24, q25, q26, q27, q28, q29, q30, q31, q32, q33, q34, q35, q36, q37, q38, q39, q40, q41, r42, r43, r44, r45, r46, r47, r48, r49, r50, r51, r52, r53, r54, r55, r56, r57, r58, r59, r60, r61, r62, r63]) (Ls := kL_136) cx 1 rfl rfl rfl (by decide) inX11 fl_M_7 d_M_init_393 ?_
  refine v_iconst cx d_M_init_396 ?_
  refine v_iload_n cx 1 d_M_init_397 rfl rfl ?_
  refine v_iadd cx d_M_init_398 ?_
  refine v_aload_n cx 0 d_M_init_399 rfl rfl ?_
  refine v_getr (o := 41) (r := 45) (ad := zAd [q0, q1, q2, q3, q4, q5, q6, q7, q8, q9, q10, q11, q12, q13, q14, q15, q16, q17, q18, q19, q20, q21, q22, q23, q24, q25, q26, q27, q28, q29, q30, q31, q32, q33, q34, q35, q36, q37, q38, q39, q40, q41, r42, r43, r44, r45, r46, r47, r48, r49, r50, r51, r52, r53, r54, r55, r56, r57, r58, r59, r60, r61, r62, r63]) (Ls := kL_136) cx 6 rfl rfl rfl (by decide) inX11 fl_M_19 d_M_init_400 ?_
  refine v_iload_n cx 1 d_M_init_403 rfl rfl ?_
  refine v_iald (o := 45) (N := 11) (i := 8) (ad := zAd [q0, q1, q2, q3, q4, q5, q6, q7, q8, q9, q10, q11, q12, q13, q14, q15, q16, q17, q18, q19, q20, q21, q22, q23, q24, q25, q26, q27, q28, q29, q30, q31, q32, q33, q34, q35, q36, q37, q38, q39, q40, q41, r42, r43, r44, r45, r46, r47, r48, r49, r50, r51, r52, r53, r54, r55, r56, r57, r58, r59, r60, r61, r62, r63]) (Ls := kL_136) cx rfl (by decide) (by decide) (by decide) d_M_init_404 (fun _ => ?_)
  refine v_nm (fun x ex => ?_)
  obtain rfl : x = 1 := ex.trans rfl
  clear ex
  refine v_iast (o := 42) (N := 499) (i := 2 + 8) (a := 1) (ad := zAd [q0, q1, q2, q3, q4, q5, q6, q7, q8, q9, q10, q11, q12, q13, q14, q15, q16, q17, q18, q19, q20, q21, q22, q23, q24, q25, q26, q27, q28, q29, q30, q31, q32, q33, q34, q35, q36, q37, q38, q39, q40, q41, r42, r43, r44, r45, r46, r47, r48, r49, r50, r51, r52, r53, r54, r55, r56, r57, r58, r59, r60, r61, r62, r63]) (Ls := kL_136) cx rfl (by decide) (by decide) (by decide) ⟨by decide, by decide⟩ d_M_init_405 ?_
  refine v_iinc (lv' := [(0, .ref q41), (1, .int (zI 9))]) cx 1 d_M_init_406 rfl (by decide) rfl rfl ?_
  refine v_goto cx 386 d_M_init_409 (by decide) ?_
  refine v_iload_n cx 1 d_M_init_386 rfl rfl ?_
  refine v_bipush cx (by decide) d_M_init_387 ?_
  refine v_icmp_ge cx 412 d_M_init_389 (by decide) ⟨by decide, by decide⟩ ⟨by decide, by decide⟩ (fun c => absurd c (by decide)) (fun _ => ?_)
  refine v_aload_n cx 0 d_M_init_392 rfl rfl ?_
  refine v_getr (o := 41) (r := 42) (ad := zAd [q0, q1, q2, q3, q4, q5, q6, q7, q8, q9, q10, q11, q12, q13, q14, q15, q16, q17, q18, q19, q20, q21, q22, q23, q24, q25, q26, q27, q28, q29, q30, q31, q32, q33, q34, q35, q36, q37, q38, q39, q40, q41, r42, r43, r44, r45, r46, r47, r48, r49, r50, r51, r52, r53, r54, r55, r56, r57, r58, r59, r60, r61, r62, r63]) (Ls := kL_136) cx 1 rfl rfl rfl (by decide) inX11 fl_M_7 d_M_init_393 ?_
  refine v_iconst cx d_M_init_396 ?_
  refine v_iload_n cx 1 d_M_init_397 rfl rfl ?_
  refine v_iadd cx d_M_init_398 ?_
  refine v_aload_n cx 0 d_M_init_399 rfl rfl ?_
  refine v_getr (o := 41) (r := 45) (ad := zAd [q0, q1, q2, q3, q4, q5, q6, q7, q8, q9, q10, q11, q12, q13, q14, q15, q16, q17, q18, q19, q20, q21, q22, q23, q24, q25, q26, q27, q28, q29, q30, q31, q32, q33, q34, q35, q36, q37, q38, q39, q40, q41, r42, r43, r44, r45, r46, r47, r48, r49, r50, r51, r52, r53, r54, r55, r56, r57, r58, r59, r60, r61, r62, r63]) (Ls := kL_136) cx 6 rfl rfl rfl (by decide) inX11 fl_M_19 d_M_init_400 ?_
  refine v_iload_n cx 1 d_M_init_403 rfl rfl ?_
  refine v_iald (o := 45) (N := 11) (i := 9) (ad := zAd [q0, q1, q2, q3, q4, q5, q6, q7, q8, q9, q10, q11, q12, q13, q14, q15, q16, q17, q18, q19, q20, q21, q22, q23, q24, q25, q26, q27, q28, q29, q30, q31, q32, q33, q34, q35, q36, q37, q38, q39, q40, q41, r42, r43, r44, r45, r46, r47, r48, r49, r50, r51, r52, r53, r54, r55, r56, r57, r58, r59, r60, r61, r62, r63]) (Ls := kL_136) cx rfl (by decide) (by decide) (by decide) d_M_init_404 (fun _ => ?_)
  refine v_nm (fun x ex => ?_)
  obtain rfl : x = 1 := ex.trans rfl
  clear ex
  refine v_iast (o := 42) (N := 499) (i := 2 + 9) (a := 1) (ad := zAd [q0, q1, q2, q3, q4, q5, q6, q7, q8, q9, q10, q11, q12, q13, q14, q15, q16, q17, q18, q19, q20, q21, q22, q23, q24, q25, q26, q27, q28, q29, q30, q31, q32, q33, q34, q35, q36, q37, q38, q39, q40, q41, r42, r43, r44, r45, r46, r47, r48, r49, r50, r51, r52, r53, r54, r55, r56, r57, r58, r59, r60, r61, r62, r63]) (Ls := kL_136) cx rfl (by decide) (by decide) (by decide) ⟨by decide, by decide⟩ d_M_init_405 ?_
  refine v_iinc (lv' := [(0, .ref q41), (1, .int (zI 10))]) cx 1 d_M_init_406 rfl (by decide) rfl rfl ?_
  refine v_goto cx 386 d_M_init_409 (by decide) ?_
  refine v_iload_n cx 1 d_M_init_386 rfl rfl ?_
  refine v_bipush cx (by decide) d_M_init_387 ?_
  refine v_icmp_ge cx 412 d_M_init_389 (by decide) ⟨by decide, by decide⟩ ⟨by decide, by decide⟩ (fun c => absurd c (by decide)) (fun _ => ?_)
  refine v_aload_n cx 0 d_M_init_392 rfl rfl ?_
  refine v_getr (o := 41) (r := 42) (ad := zAd [q0, q1, q2, q3, q4, q5, q6, q7, q8, q9, q10, q11, q12, q13, q14, q15, q16, q17, q18, q19, q20, q21, q22, q23, q24, q25, q26, q27, q28, q29, q30, q31, q32, q33, q34, q35, q36, q37, q38, q39, q40, q41, r42, r43, r44, r45, r46, r47, r48, r49, r50, r51, r52, r53, r54, r55, r56, r57, r58, r59, r60, r61, r62, r63]) (Ls := kL_136) cx 1 rfl rfl rfl (by decide) inX11 fl_M_7 d_M_init_393 ?_
  refine v_iconst cx d_M_init_396 ?_
  refine v_iload_n cx 1 d_M_init_397 rfl rfl ?_
  refine v_iadd cx d_M_init_398 ?_
  refine v_aload_n cx 0 d_M_init_399 rfl rfl ?_
  refine v_getr (o := 41) (r := 45) (ad := zAd [q0, q1, q2, q3, q4, q5, q6, q7, q8, q9, q10, q11, q12, q13, q14, q15, q16, q17, q18, q19, q20, q21, q22, q23, q24, q25, q26, q27, q28, q29, q30, q31, q32, q33, q34, q35, q36, q37, q38, q39, q40, q41, r42, r43, r44, r45, r46, r47, r48, r49, r50, r51, r52, r53, r54, r55, r56, r57, r58, r59, r60, r61, r62, r63]) (Ls := kL_136) cx 6 rfl rfl rfl (by decide) inX11 fl_M_19 d_M_init_400 ?_
  refine v_iload_n cx 1 d_M_init_403 rfl rfl ?_
  refine v_iald (o := 45) (N := 11) (i := 10) (ad := zAd [q0, q1, q2, q3, q4, q5, q6, q7, q8, q9, q10, q11, q12, q13, q14, q15, q16, q17, q18, q19, q20, q21, q22, q23, q24, q25, q26, q27, q28, q29, q30, q31, q32, q33, q34, q35, q36, q37, q38, q39, q40, q41, r42, r43, r44, r45, r46, r47, r48, r49, r50, r51, r52, r53, r54, r55, r56, r57, r58, r59, r60, r61, r62, r63]) (Ls := kL_136) cx rfl (by decide) (by decide) (by decide) d_M_init_404 (fun _ => ?_)
  refine v_nm (fun x ex => ?_)
  obtain rfl : x = 5 := ex.trans rfl
  clear ex
  refine v_iast (o := 42) (N := 499) (i := 2 + 10) (a := 5) (ad := zAd [q0, q1, q2, q3, q4, q5, q6, q7, q8, q9, q10, q11, q12, q13, q14, q15, q16, q17, q18, q19, q20, q21, q22, q23, q24, q25, q26, q27, q28, q29, q30, q31, q32, q33, q34, q35, q36, q37, q38, q39, q40, q41, r42, r43, r44, r45, r46, r47, r48, r49, r50, r51, r52, r53, r54, r55, r56, r57, r58, r59, r60, r61, r62, r63]) (Ls := kL_136) cx rfl (by decide) (by decide) (by decide) ⟨by decide, by decide⟩ d_M_init_405 ?_
  refine v_iinc (lv' := [(0, .ref q41), (1, .int (zI 11))]) cx 1 d_M_init_406 rfl (by decide) rfl rfl ?_
  refine v_goto cx 386 d_M_init_409 (by decide) ?_
  refine v_iload_n cx 1 d_M_init_386 rfl rfl ?_
  refine v_bipush cx (by decide) d_M_init_387 ?_
  refine v_icmp_ge cx 412 d_M_init_389 (by decide) ⟨by decide, by decide⟩ ⟨by decide, by decide⟩ (fun _ => ?_) (fun c => absurd c (by decide))
  exact rt _ _ _ _ _ (zAd [r42, r43, r44, r45, r46, r47, r48, r49, r50, r51, r52, r53, r54, r55, r56, r57, r58, r59, r60, r61, r62, r63]) (Nat.le_of_ble_eq_true rfl) (Nat.le_of_ble_eq_true rfl) d_M_init_412 rfl
def kL_137 : List zL := kL_136 ++ [zLo 1]
theorem kL_end : kL_137 = zLy := by decide +kernel
