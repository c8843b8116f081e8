/-! ===== the entry ===== -/
theorem k_in_10 : Cond.instantiable RX10 12 ∈ zT := ztc1 34 (by decide +kernel) rfl
theorem k_ii_10 : Cond.initialized RX10 ∈ zT := ztc1 1 (by decide +kernel) rfl
theorem k_in_11 : Cond.instantiable RX11 35 ∈ zT := ztc7 236 (by decide +kernel) rfl
theorem k_ii_11 : Cond.initialized RX11 ∈ zT := ztc1 14 (by decide +kernel) rfl
theorem k_cl_A_8 : Cond.classLink "GentleRoadLaw" 8 RX10 ∈ zT := ztc1 33 (by decide +kernel) rfl
theorem k_cl_A_106 : Cond.classLink "GentleRoadLaw" 106 RX11 ∈ zT := ztc7 235 (by decide +kernel) rfl
theorem k_il_A_105 : Cond.methodLink "GentleRoadLaw" 105 y_R_init ∈ zT := ztc1 35 (by decide +kernel) rfl
theorem k_yk_R_init : zYk y_R_init c_R_init 1 0 := ⟨ztc1 37 rfl rfl, ztc1 36 (by decide +kernel) rfl, ztc1 1 (by decide +kernel) rfl, rfl, by decide +kernel⟩
theorem k_il_A_108 : Cond.methodLink "GentleRoadLaw" 108 y_M_init ∈ zT := ztc7 237 (by decide +kernel) rfl
theorem k_yk_M_init : zYk y_M_init c_M_init 2 0 := ⟨ztc7 239 rfl rfl, ztc7 238 (by decide +kernel) rfl, ztc1 14 (by decide +kernel) rfl, rfl, by decide +kernel⟩
theorem zK_start {s : State} {args : Array Value} (hts : ∀ w ∈ zT, w.before args s = true) : ∃ (D : va_G) (dA : Nat → ClassId), va_K D zCl (zTy dA) s := by
  obtain ⟨c0, i0, h0⟩ := u_known (C := RX0) (T := TX0) (N := 8) (n := 8) hts inX0 (hts _ k_in_0)
  obtain ⟨c1, i1, h1⟩ := u_known (C := RX1) (T := TX1) (N := 4) (n := 4) hts inX1 (hts _ k_in_1)
  obtain ⟨c2, i2, h2⟩ := u_known (C := RX2) (T := TX2) (N := 2) (n := 2) hts inX2 (hts _ k_in_2)
  obtain ⟨c3, i3, h3⟩ := u_known (C := RX3) (T := TX3) (N := 3) (n := 3) hts inX3 (hts _ k_in_3)
  obtain ⟨c4, i4, h4⟩ := u_known (C := RX4) (T := TX4) (N := 10) (n := 10) hts inX4 (hts _ k_in_4)
  obtain ⟨c5, i5, h5⟩ := u_known (C := RX5) (T := TX5) (N := 4) (n := 4) hts inX5 (hts _ k_in_5)
  obtain ⟨c6, i6, h6⟩ := u_known (C := RX6) (T := TX6) (N := 4) (n := 4) hts inX6 (hts _ k_in_6)
  obtain ⟨c7, i7, h7⟩ := u_known (C := RX7) (T := TX7) (N := 2) (n := 2) hts inX7 (hts _ k_in_7)
  obtain ⟨c8, i8, h8⟩ := u_known (C := RX8) (T := TX8) (N := 6) (n := 6) hts inX8 (hts _ k_in_8)
  obtain ⟨c9, i9, h9⟩ := u_known (C := RX9) (T := TX9) (N := 14) (n := 14) hts inX9 (hts _ k_in_9)
  obtain ⟨c10, i10, h10⟩ := u_known (C := RX10) (T := TX10) (N := 12) (n := 12) hts inX10 (hts _ k_in_10)
  obtain ⟨c11, i11, h11⟩ := u_known (C := RX11) (T := TX11) (N := 35) (n := 35) hts inX11 (hts _ k_in_11)
  obtain ⟨a1, k1, p1, f1, g1, e1⟩ := Cond.arrayClass_spec (args := args) (first := s) (o := none) (s := s) (idx := []) (type := .int) (hts _ k_aci)
  obtain ⟨a2, k2, p2, f2, g2, e2⟩ := Cond.arrayClass_spec (args := args) (first := s) (o := none) (s := s) (idx := []) (type := .boolean) (hts _ k_acz)
  obtain ⟨a3, k3, p3, f3, g3, e3⟩ := Cond.arrayClass_spec (args := args) (first := s) (o := none) (s := s) (idx := []) (type := .long) (hts _ k_acl)
  refine ⟨(fun k => match k with | 0 => c0 | 1 => c1 | 2 => c2 | 3 => c3 | 4 => c4 | 5 => c5 | 6 => c6 | 7 => c7 | 8 => c8 | 9 => c9 | 10 => c10 | _ => c11, fun k => match k with | 0 => i0 | 1 => i1 | 2 => i2 | 3 => i3 | 4 => i4 | 5 => i5 | 6 => i6 | 7 => i7 | 8 => i8 | 9 => i9 | 10 => i10 | _ => i11), fun k => match k with | 1 => a1 | 2 => a2 | _ => a3, ?_, ?_⟩
  · intro k q hq
    match k, hq with
    | 0, hq => cases hq; exact h0
    | 1, hq => cases hq; exact h1
    | 2, hq => cases hq; exact h2
    | 3, hq => cases hq; exact h3
    | 4, hq => cases hq; exact h4
    | 5, hq => cases hq; exact h5
    | 6, hq => cases hq; exact h6
    | 7, hq => cases hq; exact h7
    | 8, hq => cases hq; exact h8
    | 9, hq => cases hq; exact h9
    | 10, hq => cases hq; exact h10
    | 11, hq => cases hq; exact h11
    | k + 12, hq => simp at hq
  · intro k q hq
    match k, hq with
    | 0, hq => cases hq; exact ⟨fun n z => ⟨fun k h => (by cases h), k1, g1, p1, e1⟩, f1⟩
    | 1, hq => cases hq; exact ⟨fun n z => ⟨fun k h => (by cases h), k2, g2, p2, e2⟩, f2⟩
    | 2, hq => cases hq; exact ⟨fun n z => ⟨fun k h => (by cases h), k3, g3, p3, e3⟩, f3⟩
    | k + 3, hq => simp at hq
set_option maxRecDepth 20000 in
set_option maxHeartbeats 4000000 in
theorem law_first {Ω : zO} {Γ : zM} {Q : State → Prop} {b L : Nat} {xs : Nat → Int32} (cx : zC Ω Γ c_A_law 7 "GentleRoadLaw") (sc : zScr Ω Γ b L xs) (fin : ∀ (ad : Nat → Nat) (σ : zS) (i : Int) (k n : Nat), k ≤ room_1.cells → n ≤ room_1.slots → zV Ω Γ room_1 7 Q k n zLy ad σ 2241 [(0, .ref b), (1, .ref (ad 0)), (2, .ref (ad 41)), (3, .ref (ad 64)), (4, .int (zI i))] []) : zV Ω Γ room_1 7 Q 0 0 kL_0 (zAd []) (fun _ _ => 0) 0 [(0, .ref b)] [] := by
  have hz : zHz 0 (fun _ _ => 0) := fun _ _ _ => rfl
  refine k_new (qs := []) (Ls := kL_0) (Ls' := kL_1) (fv := [.null, .null, .null, .null, .null, .null, .null, .null, .null, .null, .int 0, .int 0]) cx tyX10 tyX10_ok inX10 k_cl_A_8 k_in_10 k_ii_10 rfl (by decide +kernel) (fun _ => rfl) rfl (by decide +kernel) hz (Nat.le_of_ble_eq_true rfl) (Nat.le_of_ble_eq_true rfl) d_A_law_0 rfl (fun r0 => ?_)
  replace hz := zHz_s hz
  refine v_dup cx d_A_law_3 rfl ?_
  refine k_call (st := [.ref r0]) cx (s_R_init (Ω := Ω) (q0 := r0) hz) k_yk_R_init k_il_A_105 rfl rfl (Nat.le_of_ble_eq_true rfl) ⟨(Nat.le_of_ble_eq_true rfl), (Nat.le_of_ble_eq_true rfl)⟩ ⟨(Nat.le_of_ble_eq_true rfl), (Nat.le_of_ble_eq_true rfl)⟩ d_A_law_4 (fun v σx hsx => ?_)
  subst hsx
  replace hz := kz_R_init (m := 41) (by decide) (zHz_up hz (by decide))
  refine v_astore_n (lv' := [(0, .ref b), (1, .ref r0)]) cx d_A_law_7 rfl (by decide) rfl rfl ?_
  refine k_new (qs := [r0, v 0, v 1, v 2, v 3, v 4, v 5, v 6, v 7, v 8, v 9, v 10, v 11, v 12, v 13, v 14, v 15, v 16, v 17, v 18, v 19, v 20, v 21, v 22, v 23, v 24, v 25, v 26, v 27, v 28, v 29, v 30, v 31, v 32, v 33, v 34, v 35, v 36, v 37, v 38, v 39]) (Ls := kL_91) (Ls' := kL_92) (fv := [.int 0, .null, .null, .int 0, .null, .int 0, .null, .null, .null, .null, .null, .int 0, .int 0, .int 0, .int 0, .null, .null, .null, .null, .null, .int 0, .null, .null, .null, .int 0, .null, .int 0, .null, .int 0, .int 0, .null, .null, .null, .null, .int 0]) cx tyX11 tyX11_ok inX11 k_cl_A_106 k_in_11 k_ii_11 rfl (by decide +kernel) (fun _ => rfl) rfl (by decide +kernel) hz (Nat.le_of_ble_eq_true rfl) (Nat.le_of_ble_eq_true rfl) d_A_law_8 rfl (fun r41 => ?_)
  replace hz := zHz_s hz
  refine v_dup cx d_A_law_11 rfl ?_
  refine k_call (st := [.ref r41]) cx (s_M_init (Ω := Ω) (q0 := r0) (q1 := v 0) (q2 := v 1) (q3 := v 2) (q4 := v 3) (q5 := v 4) (q6 := v 5) (q7 := v 6) (q8 := v 7) (q9 := v 8) (q10 := v 9) (q11 := v 10) (q12 := v 11) (q13 := v 12) (q14 := v 13) (q15 := v 14) (q16 := v 15) (q17 := v 16) (q18 := v 17) (q19 := v 18) (q20 := v 19) (q21 := v 20) (q22 := v 21) (q23 := v 22) (q24 := v 23) (q25 := v 24) (q26 := v 25) (q27 := v 26) (q28 := v 27) (q29 := v 28) (q30 := v 29) (q31 := v 30) (q32 := v 31) (q33 := v 32) (q34 := v 33) (q35 := v 34) (q36 := v 35) (q37 := v 36) (q38 := v 37) (q39 := v 38) (q40 := v 39) (q41 := r41) hz) k_yk_M_init k_il_A_108 rfl rfl (Nat.le_of_ble_eq_true rfl) ⟨(Nat.le_of_ble_eq_true rfl), (Nat.le_of_ble_eq_true rfl)⟩ ⟨(Nat.le_of_ble_eq_true rfl), (Nat.le_of_ble_eq_true rfl)⟩ d_A_law_12 (fun w σx hsx => ?_)
  subst hsx
  replace hz := kz_M_init (m := 64) (by decide) (zHz_up hz (by decide))
  refine v_astore_n (lv' := [(0, .ref b), (1, .ref r0), (2, .ref r41)]) cx d_A_law_15 rfl (by decide) rfl rfl ?_
  refine v_iconst cx d_A_law_16 ?_
  refine k_newl (qs := [r0, v 0, v 1, v 2, v 3, v 4, v 5, v 6, v 7, v 8, v 9, v 10, v 11, v 12, v 13, v 14, v 15, v 16, v 17, v 18, v 19, v 20, v 21, v 22, v 23, v 24, v 25, v 26, v 27, v 28, v 29, v 30, v 31, v 32, v 33, v 34, v 35, v 36, v 37, v 38, v 39, r41, w 0, w 1, w 2, w 3, w 4, w 5, w 6, w 7, w 8, w 9, w 10, w 11, w 12, w 13, w 14, w 15, w 16, w 17, w 18, w 19, w 20, w 21]) (Ls := kL_136) (Ls' := kL_137) (N := 1) cx rfl rfl (by decide +kernel) hz k_acl (Nat.le_of_ble_eq_true rfl) (Nat.le_of_ble_eq_true rfl) (Nat.le_of_ble_eq_true rfl) d_A_law_17 rfl (fun r64 => ?_)
  refine v_astore_n (lv' := [(0, .ref b), (1, .ref r0), (2, .ref r41), (3, .ref r64)]) cx d_A_law_19 rfl (by decide) rfl rfl ?_
  refine v_iconst cx d_A_law_20 ?_
  refine v_istore (lv' := [(0, .ref b), (1, .ref r0), (2, .ref r41), (3, .ref r64), (4, .int (zI 0))]) cx d_A_law_21 (by decide) rfl rfl ?_
  rw [kL_end]
  have LP := c_A_loop (ad := zAd [r0, v 0, v 1, v 2, v 3, v 4, v 5, v 6, v 7, v 8, v 9, v 10, v 11, v 12, v 13, v 14, v 15, v 16, v 17, v 18, v 19, v 20, v 21, v 22, v 23, v 24, v 25, v 26, v 27, v 28, v 29, v 30, v 31, v 32, v 33, v 34, v 35, v 36, v 37, v 38, v 39, r41, w 0, w 1, w 2, w 3, w 4, w 5, w 6, w 7, w 8, w 9, w 10, w 11, w 12, w 13, w 14, w 15, w 16, w 17, w 18, w 19, w 20, w 21, r64]) (k0 := 65) (n0 := 107492) (Q := Q) cx sc (Nat.le_of_ble_eq_true rfl) (Nat.le_of_ble_eq_true rfl) (fun σ i k n hk hn => fin _ σ i k n hk hn) L 0 zF0 (by omega) (by omega) (by omega) INV_0
  exact LP
