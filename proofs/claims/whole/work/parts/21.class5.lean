def q_U_firstBrokenStep (which : Int) (K : Int → zS → Prop) (σ : zS) : Prop :=
  ∃ (I2 : Int → zS → Prop) (μ2 : Int → zS → Nat), (I2 0 σ) ∧ ∀ (y1 : Int) (σ2 : zS), I2 y1 σ2 → zR y1 → 
  q_U_steps which (fun r4 σ3 =>
    (r4 ≤ y1 →
      K (-1) σ3) ∧ (y1 < r4 →
      q_L_roadPlace which y1 (fun r7 σ6 =>
        q_L_roadHeading which y1 (fun r9 σ8 =>
          q_L_canStep r7 r9 (fun r11 σ10 =>
            (r11 ≠ 0 →
              I2 (y1 + 1) σ10 ∧ zR (y1 + 1) ∧ μ2 (y1 + 1) σ10 < μ2 y1 σ2) ∧ (r11 = 0 →
              K y1 σ10)) σ8) σ6) σ3)) σ2
abbrev rm_U_firstBrokenStep : Room := { frames := 3, cells := 0, slots := 0, locals := 68 }
set_option maxRecDepth 20000 in
set_option maxHeartbeats 4000000 in
theorem s_U_firstBrokenStep {Ω : zO} {ad : Nat → Nat} {which : Int} {K : Int → zS → Prop} {σ : zS} (hwhich : zR which) (h : q_U_firstBrokenStep which K σ) : zMi Ω y_U_firstBrokenStep (.code y_U_firstBrokenStep c_U_firstBrokenStep 3 (some .int)) rm_U_firstBrokenStep zLy ad [.ref (ad 38), .int (zI which)] σ K := by
  refine z_ofi (lv := [(0, .ref (ad 38)), (1, .int (zI which))]) (by decide) rfl (Nat.le_of_ble_eq_true rfl) ?_
  intro Γ Q cx rt
  unfold q_U_firstBrokenStep at h
  refine v_iconst cx d_U_firstBrokenStep_0 ?_
  refine v_istore_n (lv' := [(0, .ref (ad 38)), (1, .int (zI which)), (2, .int (zI 0))]) cx d_U_firstBrokenStep_1 rfl (by decide) rfl rfl ?_
  obtain ⟨I2, μ2, h0, h⟩ := h
  have L2 : ∀ (N2 : Nat) (y1 : Int) (σ2 : zS), μ2 y1 σ2 < N2 → I2 y1 σ2 → zR y1 → zV Ω Γ rm_U_firstBrokenStep 3 Q 0 0 zLy ad σ2 2 [(0, .ref (ad 38)), (1, .int (zI which)), (2, .int (zI y1))] [] := by
    intro N2
    induction N2 with
    | zero => intro y1 σ2 hm; exact absurd hm (Nat.not_lt_zero _)
    | succ N2 ih2 =>
      intro y1 σ2 hmm2 hI hy1
      replace h := h y1 σ2 hI hy1
      refine v_iload_n cx 2 d_U_firstBrokenStep_2 rfl rfl ?_
      refine v_aload_n cx 0 d_U_firstBrokenStep_3 rfl rfl ?_
      refine v_iload_n cx 1 d_U_firstBrokenStep_4 rfl rfl ?_
      refine v_callVi0 (st := [.int (zI y1)]) cx (s_U_steps hwhich h) yk_U_steps lk_U_72 zl_38 rfl rfl rfl (Nat.le_of_ble_eq_true rfl) ⟨Nat.le_of_ble_eq_true rfl, Nat.le_of_ble_eq_true rfl⟩ ⟨rfl, rfl⟩ ⟨(Nat.le_of_ble_eq_true rfl), (Nat.le_of_ble_eq_true rfl)⟩ d_U_firstBrokenStep_5 (fun r4 σ3 hr4 h => ?_)
      refine v_icmp_ge cx 47 d_U_firstBrokenStep_8 (by decide) hy1 hr4 (fun c5 => ?_) (fun c5 => ?_)
      · replace h := h.1 c5
        refine v_iconst cx d_U_firstBrokenStep_47 ?_
        exact rt _ _ _ _ _ _ (Nat.le_of_ble_eq_true rfl) (Nat.le_of_ble_eq_true rfl) d_U_firstBrokenStep_48 ⟨by decide, by decide⟩ h
      · replace h := h.2 c5
        refine v_aload_n cx 0 d_U_firstBrokenStep_11 rfl rfl ?_
        refine gf_U_9 cx d_U_firstBrokenStep_12 ?_
        refine v_aload_n cx 0 d_U_firstBrokenStep_15 rfl rfl ?_
        refine gf_U_9 cx d_U_firstBrokenStep_16 ?_
        refine v_iload_n cx 1 d_U_firstBrokenStep_19 rfl rfl ?_
        refine v_iload_n cx 2 d_U_firstBrokenStep_20 rfl rfl ?_
        refine v_callVi0 (st := [.ref (ad 3)]) cx (s_L_roadPlace hwhich hy1 h) yk_L_roadPlace lk_U_81 zl_3 rfl rfl rfl (Nat.le_of_ble_eq_true rfl) ⟨Nat.le_of_ble_eq_true rfl, Nat.le_of_ble_eq_true rfl⟩ ⟨rfl, rfl⟩ ⟨(Nat.le_of_ble_eq_true rfl), (Nat.le_of_ble_eq_true rfl)⟩ d_U_firstBrokenStep_21 (fun r7 σ6 hr7 h => ?_)
        refine v_aload_n cx 0 d_U_firstBrokenStep_24 rfl rfl ?_
        refine gf_U_9 cx d_U_firstBrokenStep_25 ?_
        refine v_iload_n cx 1 d_U_firstBrokenStep_28 rfl rfl ?_
        refine v_iload_n cx 2 d_U_firstBrokenStep_29 rfl rfl ?_
        refine v_callVi0 (st := [.int (zI r7), .ref (ad 3)]) cx (s_L_roadHeading hwhich hy1 h) yk_L_roadHeading lk_U_75 zl_3 rfl rfl rfl (Nat.le_of_ble_eq_true rfl) ⟨Nat.le_of_ble_eq_true rfl, Nat.le_of_ble_eq_true rfl⟩ ⟨rfl, rfl⟩ ⟨(Nat.le_of_ble_eq_true rfl), (Nat.le_of_ble_eq_true rfl)⟩ d_U_firstBrokenStep_30 (fun r9 σ8 hr9 h => ?_)
        refine v_callVz0 (st := []) cx (s_L_canStep hr7 hr9 h) yk_L_canStep lk_U_107 zl_3 rfl rfl rfl (Nat.le_of_ble_eq_true rfl) ⟨Nat.le_of_ble_eq_true rfl, Nat.le_of_ble_eq_true rfl⟩ ⟨rfl, rfl⟩ ⟨(Nat.le_of_ble_eq_true rfl), (Nat.le_of_ble_eq_true rfl)⟩ d_U_firstBrokenStep_33 (fun r11 σ10 hr11 h => ?_)
        refine v_if_ne cx 41 d_U_firstBrokenStep_36 (by decide) (zR_b hr11) (fun c12 => ?_) (fun c12 => ?_)
        · replace h := h.1 c12
          refine v_iinc (lv' := [(0, .ref (ad 38)), (1, .int (zI which)), (2, .int (zI (y1 + 1)))]) cx 2 d_U_firstBrokenStep_41 rfl (by decide) rfl rfl ?_
          refine v_goto cx 2 d_U_firstBrokenStep_44 (by decide) ?_
          obtain ⟨hI2, hz14, hm2⟩ := h
          exact ih2 _ _ (Nat.lt_of_lt_of_le hm2 (Nat.le_of_lt_succ hmm2)) hI2 hz14
        · replace h := h.2 c12
          refine v_iload_n cx 2 d_U_firstBrokenStep_39 rfl rfl ?_
          exact rt _ _ _ _ _ _ (Nat.le_of_ble_eq_true rfl) (Nat.le_of_ble_eq_true rfl) d_U_firstBrokenStep_40 hy1 h
  exact L2 _ _ _ (Nat.lt_succ_self _) h0 ⟨by decide, by decide⟩
def q_U_levelAt (which : Int) (k_ : Int) (K : Int → zS → Prop) (σ : zS) : Prop :=
  q_L_roadPlace which k_ (fun r2 σ1 =>
    q_L_height r2 (fun r4 σ3 =>
      q_L_roadOffset which k_ (fun r6 σ5 =>
        zR (r4 + r6) ∧ (K (r4 + r6) σ5)) σ3) σ1) σ
abbrev rm_U_levelAt : Room := { frames := 1, cells := 0, slots := 0, locals := 22 }
set_option maxRecDepth 20000 in
set_option maxHeartbeats 4000000 in
theorem s_U_levelAt {Ω : zO} {ad : Nat → Nat} {which : Int} {k_ : Int} {K : Int → zS → Prop} {σ : zS} (hwhich : zR which) (hk_ : zR k_) (h : q_U_levelAt which k_ K σ) : zMi Ω y_U_levelAt (.code y_U_levelAt c_U_levelAt 3 (some .int)) rm_U_levelAt zLy ad [.ref (ad 38), .int (zI which), .int (zI k_)] σ K := by
  refine z_ofi (lv := [(0, .ref (ad 38)), (1, .int (zI which)), (2, .int (zI k_))]) (by decide) rfl (Nat.le_of_ble_eq_true rfl) ?_
  intro Γ Q cx rt
  unfold q_U_levelAt at h
  refine v_aload_n cx 0 d_U_levelAt_0 rfl rfl ?_
  refine gf_U_9 cx d_U_levelAt_1 ?_
  refine v_aload_n cx 0 d_U_levelAt_4 rfl rfl ?_
  refine gf_U_9 cx d_U_levelAt_5 ?_
  refine v_iload_n cx 1 d_U_levelAt_8 rfl rfl ?_
  refine v_iload_n cx 2 d_U_levelAt_9 rfl rfl ?_
  refine v_callVi0 (st := [.ref (ad 3)]) cx (s_L_roadPlace hwhich hk_ h) yk_L_roadPlace lk_U_81 zl_3 rfl rfl rfl (Nat.le_of_ble_eq_true rfl) ⟨Nat.le_of_ble_eq_true rfl, Nat.le_of_ble_eq_true rfl⟩ ⟨rfl, rfl⟩ ⟨(Nat.le_of_ble_eq_true rfl), (Nat.le_of_ble_eq_true rfl)⟩ d_U_levelAt_10 (fun r2 σ1 hr2 h => ?_)
  refine v_callVi0 (st := []) cx (s_L_height hr2 h) yk_L_height lk_U_84 zl_3 rfl rfl rfl (Nat.le_of_ble_eq_true rfl) ⟨Nat.le_of_ble_eq_true rfl, Nat.le_of_ble_eq_true rfl⟩ ⟨rfl, rfl⟩ ⟨(Nat.le_of_ble_eq_true rfl), (Nat.le_of_ble_eq_true rfl)⟩ d_U_levelAt_13 (fun r4 σ3 hr4 h => ?_)
  refine v_aload_n cx 0 d_U_levelAt_16 rfl rfl ?_
  refine gf_U_9 cx d_U_levelAt_17 ?_
  refine v_iload_n cx 1 d_U_levelAt_20 rfl rfl ?_
  refine v_iload_n cx 2 d_U_levelAt_21 rfl rfl ?_
  refine v_callVi0 (st := [.int (zI r4)]) cx (s_L_roadOffset hwhich hk_ h) yk_L_roadOffset lk_U_115 zl_3 rfl rfl rfl (Nat.le_of_ble_eq_true rfl) ⟨Nat.le_of_ble_eq_true rfl, Nat.le_of_ble_eq_true rfl⟩ ⟨rfl, rfl⟩ ⟨(Nat.le_of_ble_eq_true rfl), (Nat.le_of_ble_eq_true rfl)⟩ d_U_levelAt_22 (fun r6 σ5 hr6 h => ?_)
  refine v_iadd cx d_U_levelAt_25 ?_
  obtain ⟨hr7, h⟩ := h
  exact rt _ _ _ _ _ _ (Nat.le_of_ble_eq_true rfl) (Nat.le_of_ble_eq_true rfl) d_U_levelAt_26 hr7 h
def q_U_greatestLevel (which : Int) (sign : Int) (K : Int → zS → Prop) (σ : zS) : Prop :=
  ∃ (I6 : Int → Int → zS → Prop) (μ6 : Int → Int → zS → Nat), (I6 (-1000000000) 0 σ) ∧ ∀ (y1 y2 : Int) (σ3 : zS), I6 y1 y2 σ3 → zR y1 → zR y2 → 
  q_L_roadSize which (fun r5 σ4 =>
    (r5 ≤ y2 →
      K y1 σ4) ∧ (y2 < r5 →
      q_U_levelAt which y2 (fun r8 σ7 =>
        zR (sign * r8) ∧ (∀ x11 : Int, x11 = max y1 (sign * r8) → I6 x11 (y2 + 1) σ7 ∧ zR (y2 + 1) ∧ μ6 x11 (y2 + 1) σ7 < μ6 y1 y2 σ3)) σ4)) σ3
abbrev rm_U_greatestLevel : Room := { frames := 2, cells := 0, slots := 0, locals := 44 }
set_option maxRecDepth 20000 in
set_option maxHeartbeats 4000000 in
theorem s_U_greatestLevel {Ω : zO} {ad : Nat → Nat} {which : Int} {sign : Int} {K : Int → zS → Prop} {σ : zS} (hwhich : zR which) (hsign : zR sign) (h : q_U_greatestLevel which sign K σ) : zMi Ω y_U_greatestLevel (.code y_U_greatestLevel c_U_greatestLevel 5 (some .int)) rm_U_greatestLevel zLy ad [.ref (ad 38), .int (zI which), .int (zI sign)] σ K := by
  refine z_ofi (lv := [(0, .ref (ad 38)), (1, .int (zI which)), (2, .int (zI sign))]) (by decide) rfl (Nat.le_of_ble_eq_true rfl) ?_
  intro Γ Q cx rt
  unfold q_U_greatestLevel at h
  refine v_ldc cx ct_U_127 d_U_greatestLevel_0 ?_
  refine v_istore_n (lv' := [(0, .ref (ad 38)), (1, .int (zI which)), (2, .int (zI sign)), (3, .int (zI (-1000000000)))]) cx d_U_greatestLevel_2 rfl (by decide) rfl rfl ?_
  refine v_iconst cx d_U_greatestLevel_3 ?_
  refine v_istore (lv' := [(0, .ref (ad 38)), (1, .int (zI which)), (2, .int (zI sign)), (3, .int (zI (-1000000000))), (4, .int (zI 0))]) cx d_U_greatestLevel_4 (by decide) rfl rfl ?_
  obtain ⟨I6, μ6, h0, h⟩ := h
  have L6 : ∀ (N6 : Nat) (y1 y2 : Int) (σ3 : zS), μ6 y1 y2 σ3 < N6 → I6 y1 y2 σ3 → zR y1 → zR y2 → zV Ω Γ rm_U_greatestLevel 5 Q 0 0 zLy ad σ3 6 [(0, .ref (ad 38)), (1, .int (zI which)), (2, .int (zI sign)), (3, .int (zI y1)), (4, .int (zI y2))] [] := by
    intro N6
    induction N6 with
    | zero => intro y1 y2 σ3 hm; exact absurd hm (Nat.not_lt_zero _)
    | succ N6 ih6 =>
      intro y1 y2 σ3 hmm6 hI hy1 hy2
      replace h := h y1 y2 σ3 hI hy1 hy2
      refine v_iload cx 4 d_U_greatestLevel_6 rfl ?_
      refine v_aload_n cx 0 d_U_greatestLevel_8 rfl rfl ?_
      refine gf_U_9 cx d_U_greatestLevel_9 ?_
      refine v_iload_n cx 1 d_U_greatestLevel_12 rfl rfl ?_
      refine v_callVi0 (st := [.int (zI y2)]) cx (s_L_roadSize hwhich h) yk_L_roadSize lk_U_27 zl_3 rfl rfl rfl (Nat.le_of_ble_eq_true rfl) ⟨Nat.le_of_ble_eq_true rfl, Nat.le_of_ble_eq_true rfl⟩ ⟨rfl, rfl⟩ ⟨(Nat.le_of_ble_eq_true rfl), (Nat.le_of_ble_eq_true rfl)⟩ d_U_greatestLevel_13 (fun r5 σ4 hr5 h => ?_)
      refine v_icmp_ge cx 39 d_U_greatestLevel_16 (by decide) hy2 hr5 (fun c6 => ?_) (fun c6 => ?_)
      · replace h := h.1 c6
        refine v_iload_n cx 3 d_U_greatestLevel_39 rfl rfl ?_
        exact rt _ _ _ _ _ _ (Nat.le_of_ble_eq_true rfl) (Nat.le_of_ble_eq_true rfl) d_U_greatestLevel_40 hy1 h
      · replace h := h.2 c6
        refine v_iload_n cx 3 d_U_greatestLevel_19 rfl rfl ?_
        refine v_iload_n cx 2 d_U_greatestLevel_20 rfl rfl ?_
        refine v_aload_n cx 0 d_U_greatestLevel_21 rfl rfl ?_
        refine v_iload_n cx 1 d_U_greatestLevel_22 rfl rfl ?_
        refine v_iload cx 4 d_U_greatestLevel_23 rfl ?_
        refine v_callVi0 (st := [.int (zI sign), .int (zI y1)]) cx (s_U_levelAt hwhich hy2 h) yk_U_levelAt lk_U_118 zl_38 rfl rfl rfl (Nat.le_of_ble_eq_true rfl) ⟨Nat.le_of_ble_eq_true rfl, Nat.le_of_ble_eq_true rfl⟩ ⟨rfl, rfl⟩ ⟨(Nat.le_of_ble_eq_true rfl), (Nat.le_of_ble_eq_true rfl)⟩ d_U_greatestLevel_25 (fun r8 σ7 hr8 h => ?_)
        refine v_imul cx d_U_greatestLevel_28 ?_
        obtain ⟨hr9, h⟩ := h
        refine v_mmax cx lk_U_87 zmath_max.1 zmath_max.2.1 zmath_max.2.2 hy1 hr9 (Nat.le_of_ble_eq_true rfl) (Nat.le_of_ble_eq_true rfl) (Nat.le_of_ble_eq_true rfl) (Nat.le_of_ble_eq_true rfl) d_U_greatestLevel_29 (fun hl10 => ?_)
        refine v_nm (fun x11 ex11 => ?_)
        replace h := h x11 ex11
        have hx11 : zR x11 := by rw [ex11]; exact hl10
        refine v_istore_n (lv' := [(0, .ref (ad 38)), (1, .int (zI which)), (2, .int (zI sign)), (3, .int (zI x11)), (4, .int (zI y2))]) cx d_U_greatestLevel_32 rfl (by decide) rfl rfl ?_
        refine v_iinc (lv' := [(0, .ref (ad 38)), (1, .int (zI which)), (2, .int (zI sign)), (3, .int (zI x11)), (4, .int (zI (y2 + 1)))]) cx 4 d_U_greatestLevel_33 rfl (by decide) rfl rfl ?_
        refine v_goto cx 6 d_U_greatestLevel_36 (by decide) ?_
        obtain ⟨hI2, hz13, hm2⟩ := h
        exact ih6 _ _ _ (Nat.lt_of_lt_of_le hm2 (Nat.le_of_lt_succ hmm6)) hI2 hx11 hz13
  exact L6 _ _ _ _ (Nat.lt_succ_self _) h0 ⟨by decide, by decide⟩ ⟨by decide, by decide⟩
def q_U_hairpins (which : Int) (K : Int → zS → Prop) (σ : zS) : Prop :=
  ∃ (I4 : Int → Int → zS → Prop) (μ4 : Int → Int → zS → Nat), (I4 0 1 σ) ∧ ∀ (y1 y2 : Int) (σ3 : zS), I4 y1 y2 σ3 → zR y1 → zR y2 → 
  q_U_steps which (fun r5 σ4 =>
    (r5 ≤ y2 →
      K y1 σ4) ∧ (y2 < r5 →
      q_U_bendAt which y2 (fun r8 σ7 =>
        q_L_value 1 (fun r10 σ9 =>
          (r8 ≤ r10 →
            ∀ x12 : Int, x12 = y1 + 0 → I4 x12 (y2 + 1) σ9 ∧ zR x12 ∧ zR (y2 + 1) ∧ μ4 x12 (y2 + 1) σ9 < μ4 y1 y2 σ3) ∧ (r10 < r8 →
            ∀ x16 : Int, x16 = y1 + 1 → I4 x16 (y2 + 1) σ9 ∧ zR x16 ∧ zR (y2 + 1) ∧ μ4 x16 (y2 + 1) σ9 < μ4 y1 y2 σ3)) σ7) σ4)) σ3
abbrev rm_U_hairpins : Room := { frames := 3, cells := 0, slots := 0, locals := 67 }
set_option maxRecDepth 20000 in
set_option maxHeartbeats 4000000 in
theorem s_U_hairpins {Ω : zO} {ad : Nat → Nat} {which : Int} {K : Int → zS → Prop} {σ : zS} (hwhich : zR which) (h : q_U_hairpins which K σ) : zMi Ω y_U_hairpins (.code y_U_hairpins c_U_hairpins 4 (some .int)) rm_U_hairpins zLy ad [.ref (ad 38), .int (zI which)] σ K := by
  refine z_ofi (lv := [(0, .ref (ad 38)), (1, .int (zI which))]) (by decide) rfl (Nat.le_of_ble_eq_true rfl) ?_
  intro Γ Q cx rt
  unfold q_U_hairpins at h
  refine v_iconst cx d_U_hairpins_0 ?_
  refine v_istore_n (lv' := [(0, .ref (ad 38)), (1, .int (zI which)), (2, .int (zI 0))]) cx d_U_hairpins_1 rfl (by decide) rfl rfl ?_
  refine v_iconst cx d_U_hairpins_2 ?_
  refine v_istore_n (lv' := [(0, .ref (ad 38)), (1, .int (zI which)), (2, .int (zI 0)), (3, .int (zI 1))]) cx d_U_hairpins_3 rfl (by decide) rfl rfl ?_
  obtain ⟨I4, μ4, h0, h⟩ := h
  have L4 : ∀ (N4 : Nat) (y1 y2 : Int) (σ3 : zS), μ4 y1 y2 σ3 < N4 → I4 y1 y2 σ3 → zR y1 → zR y2 → zV Ω Γ rm_U_hairpins 4 Q 0 0 zLy ad σ3 4 [(0, .ref (ad 38)), (1, .int (zI which)), (2, .int (zI y1)), (3, .int (zI y2))] [] := by
    intro N4
    induction N4 with
    | zero => intro y1 y2 σ3 hm; exact absurd hm (Nat.not_lt_zero _)
    | succ N4 ih4 =>
      intro y1 y2 σ3 hmm4 hI hy1 hy2
      replace h := h y1 y2 σ3 hI hy1 hy2
      refine v_iload_n cx 3 d_U_hairpins_4 rfl rfl ?_
      refine v_aload_n cx 0 d_U_hairpins_5 rfl rfl ?_
      refine v_iload_n cx 1 d_U_hairpins_6 rfl rfl ?_
      refine v_callVi0 (st := [.int (zI y2)]) cx (s_U_steps hwhich h) yk_U_steps lk_U_72 zl_38 rfl rfl rfl (Nat.le_of_ble_eq_true rfl) ⟨Nat.le_of_ble_eq_true rfl, Nat.le_of_ble_eq_true rfl⟩ ⟨rfl, rfl⟩ ⟨(Nat.le_of_ble_eq_true rfl), (Nat.le_of_ble_eq_true rfl)⟩ d_U_hairpins_7 (fun r5 σ4 hr5 h => ?_)
      refine v_icmp_ge cx 44 d_U_hairpins_10 (by decide) hy2 hr5 (fun c6 => ?_) (fun c6 => ?_)
      · replace h := h.1 c6
        refine v_iload_n cx 2 d_U_hairpins_44 rfl rfl ?_
        exact rt _ _ _ _ _ _ (Nat.le_of_ble_eq_true rfl) (Nat.le_of_ble_eq_true rfl) d_U_hairpins_45 hy1 h
      · replace h := h.2 c6
        refine v_iload_n cx 2 d_U_hairpins_13 rfl rfl ?_
        refine v_aload_n cx 0 d_U_hairpins_14 rfl rfl ?_
        refine v_iload_n cx 1 d_U_hairpins_15 rfl rfl ?_
        refine v_iload_n cx 3 d_U_hairpins_16 rfl rfl ?_
        refine v_callVi0 (st := [.int (zI y1)]) cx (s_U_bendAt hwhich hy2 h) yk_U_bendAt lk_U_98 zl_38 rfl rfl rfl (Nat.le_of_ble_eq_true rfl) ⟨Nat.le_of_ble_eq_true rfl, Nat.le_of_ble_eq_true rfl⟩ ⟨rfl, rfl⟩ ⟨(Nat.le_of_ble_eq_true rfl), (Nat.le_of_ble_eq_true rfl)⟩ d_U_hairpins_17 (fun r8 σ7 hr8 h => ?_)
        refine v_aload_n cx 0 d_U_hairpins_20 rfl rfl ?_
        refine gf_U_9 cx d_U_hairpins_21 ?_
        refine v_iconst cx d_U_hairpins_24 ?_
        refine v_callVi0 (st := [.int (zI r8), .int (zI y1)]) cx (s_L_value ⟨by decide, by decide⟩ h) yk_L_value lk_U_104 zl_3 rfl rfl rfl (Nat.le_of_ble_eq_true rfl) ⟨Nat.le_of_ble_eq_true rfl, Nat.le_of_ble_eq_true rfl⟩ ⟨rfl, rfl⟩ ⟨(Nat.le_of_ble_eq_true rfl), (Nat.le_of_ble_eq_true rfl)⟩ d_U_hairpins_25 (fun r10 σ9 hr10 h => ?_)
        refine v_icmp_le cx 35 d_U_hairpins_28 (by decide) hr8 hr10 (fun c11 => ?_) (fun c11 => ?_)
        · replace h := h.1 c11
          refine v_iconst cx d_U_hairpins_35 ?_
          refine v_iadd cx d_U_hairpins_36 ?_
          refine v_nm (fun x12 ex12 => ?_)
          replace h := h x12 ex12
          refine v_istore_n (lv' := [(0, .ref (ad 38)), (1, .int (zI which)), (2, .int (zI x12)), (3, .int (zI y2))]) cx d_U_hairpins_37 rfl (by decide) rfl rfl ?_
          refine v_iinc (lv' := [(0, .ref (ad 38)), (1, .int (zI which)), (2, .int (zI x12)), (3, .int (zI (y2 + 1)))]) cx 3 d_U_hairpins_38 rfl (by decide) rfl rfl ?_
          refine v_goto cx 4 d_U_hairpins_41 (by decide) ?_
          obtain ⟨hI2, hz14, hz15, hm2⟩ := h
          exact ih4 _ _ _ (Nat.lt_of_lt_of_le hm2 (Nat.le_of_lt_succ hmm4)) hI2 hz14 hz15
        · replace h := h.2 c11
          refine v_iconst cx d_U_hairpins_31 ?_
          refine v_goto cx 36 d_U_hairpins_32 (by decide) ?_
          refine v_iadd cx d_U_hairpins_36 ?_
          refine v_nm (fun x16 ex16 => ?_)
          replace h := h x16 ex16
          refine v_istore_n (lv' := [(0, .ref (ad 38)), (1, .int (zI which)), (2, .int (zI x16)), (3, .int (zI y2))]) cx d_U_hairpins_37 rfl (by decide) rfl rfl ?_
          refine v_iinc (lv' := [(0, .ref (ad 38)), (1, .int (zI which)), (2, .int (zI x16)), (3, .int (zI (y2 + 1)))]) cx 3 d_U_hairpins_38 rfl (by decide) rfl rfl ?_
          refine v_goto cx 4 d_U_hairpins_41 (by decide) ?_
          obtain ⟨hI2, hz18, hz19, hm2⟩ := h
          exact ih4 _ _ _ (Nat.lt_of_lt_of_le hm2 (Nat.le_of_lt_succ hmm4)) hI2 hz18 hz19
  exact L4 _ _ _ _ (Nat.lt_succ_self _) h0 ⟨by decide, by decide⟩ ⟨by decide, by decide⟩
def q_U_longTogether (which : Int) (K : Int → zS → Prop) (σ : zS) : Prop :=
  ∃ (I4 : Int → Int → zS → Prop) (μ4 : Int → Int → zS → Nat), (I4 0 0 σ) ∧ ∀ (y1 y2 : Int) (σ3 : zS), I4 y1 y2 σ3 → zR y1 → zR y2 → 
  q_U_steps which (fun r5 σ4 =>
    (r5 ≤ y2 →
      K y1 σ4) ∧ (y2 < r5 →
      q_L_roadHeading which y2 (fun r8 σ7 =>
        q_R_longOf r8 (fun r10 σ9 =>
          ∀ x11 : Int, x11 = y1 + r10 → I4 x11 (y2 + 1) σ9 ∧ zR x11 ∧ zR (y2 + 1) ∧ μ4 x11 (y2 + 1) σ9 < μ4 y1 y2 σ3) σ7) σ4)) σ3
abbrev rm_U_longTogether : Room := { frames := 2, cells := 0, slots := 0, locals := 45 }
set_option maxRecDepth 20000 in
set_option maxHeartbeats 4000000 in
theorem s_U_longTogether {Ω : zO} {ad : Nat → Nat} {which : Int} {K : Int → zS → Prop} {σ : zS} (hwhich : zR which) (h : q_U_longTogether which K σ) : zMi Ω y_U_longTogether (.code y_U_longTogether c_U_longTogether 4 (some .int)) rm_U_longTogether zLy ad [.ref (ad 38), .int (zI which)] σ K := by
  refine z_ofi (lv := [(0, .ref (ad 38)), (1, .int (zI which))]) (by decide) rfl (Nat.le_of_ble_eq_true rfl) ?_
  intro Γ Q cx rt
  unfold q_U_longTogether at h
  refine v_iconst cx d_U_longTogether_0 ?_
  refine v_istore_n (lv' := [(0, .ref (ad 38)), (1, .int (zI which)), (2, .int (zI 0))]) cx d_U_longTogether_1 rfl (by decide) rfl rfl ?_
  refine v_iconst cx d_U_longTogether_2 ?_
  refine v_istore_n (lv' := [(0, .ref (ad 38)), (1, .int (zI which)), (2, .int (zI 0)), (3, .int (zI 0))]) cx d_U_longTogether_3 rfl (by decide) rfl rfl ?_
  obtain ⟨I4, μ4, h0, h⟩ := h
  have L4 : ∀ (N4 : Nat) (y1 y2 : Int) (σ3 : zS), μ4 y1 y2 σ3 < N4 → I4 y1 y2 σ3 → zR y1 → zR y2 → zV Ω Γ rm_U_longTogether 4 Q 0 0 zLy ad σ3 4 [(0, .ref (ad 38)), (1, .int (zI which)), (2, .int (zI y1)), (3, .int (zI y2))] [] := by
    intro N4
    induction N4 with
    | zero => intro y1 y2 σ3 hm; exact absurd hm (Nat.not_lt_zero _)
    | succ N4 ih4 =>
      intro y1 y2 σ3 hmm4 hI hy1 hy2
      replace h := h y1 y2 σ3 hI hy1 hy2
      refine v_iload_n cx 3 d_U_longTogether_4 rfl rfl ?_
      refine v_aload_n cx 0 d_U_longTogether_5 rfl rfl ?_
      refine v_iload_n cx 1 d_U_longTogether_6 rfl rfl ?_
      refine v_callVi0 (st := [.int (zI y2)]) cx (s_U_steps hwhich h) yk_U_steps lk_U_72 zl_38 rfl rfl rfl (Nat.le_of_ble_eq_true rfl) ⟨Nat.le_of_ble_eq_true rfl, Nat.le_of_ble_eq_true rfl⟩ ⟨rfl, rfl⟩ ⟨(Nat.le_of_ble_eq_true rfl), (Nat.le_of_ble_eq_true rfl)⟩ d_U_longTogether_7 (fun r5 σ4 hr5 h => ?_)
      refine v_icmp_ge cx 34 d_U_longTogether_10 (by decide) hy2 hr5 (fun c6 => ?_) (fun c6 => ?_)
      · replace h := h.1 c6
        refine v_iload_n cx 2 d_U_longTogether_34 rfl rfl ?_
        exact rt _ _ _ _ _ _ (Nat.le_of_ble_eq_true rfl) (Nat.le_of_ble_eq_true rfl) d_U_longTogether_35 hy1 h
      · replace h := h.2 c6
        refine v_iload_n cx 2 d_U_longTogether_13 rfl rfl ?_
        refine v_aload_n cx 0 d_U_longTogether_14 rfl rfl ?_
        refine gf_U_9 cx d_U_longTogether_15 ?_
        refine v_iload_n cx 1 d_U_longTogether_18 rfl rfl ?_
        refine v_iload_n cx 3 d_U_longTogether_19 rfl rfl ?_
        refine v_callVi0 (st := [.int (zI y1)]) cx (s_L_roadHeading hwhich hy2 h) yk_L_roadHeading lk_U_75 zl_3 rfl rfl rfl (Nat.le_of_ble_eq_true rfl) ⟨Nat.le_of_ble_eq_true rfl, Nat.le_of_ble_eq_true rfl⟩ ⟨rfl, rfl⟩ ⟨(Nat.le_of_ble_eq_true rfl), (Nat.le_of_ble_eq_true rfl)⟩ d_U_longTogether_20 (fun r8 σ7 hr8 h => ?_)
        refine v_callNi0 (st := [.int (zI y1)]) cx (s_R_longOf hr8 h) yk_R_longOf ln_U_78 rfl rfl (Nat.le_of_ble_eq_true rfl) ⟨Nat.le_of_ble_eq_true rfl, Nat.le_of_ble_eq_true rfl⟩ ⟨rfl, rfl⟩ ⟨(Nat.le_of_ble_eq_true rfl), (Nat.le_of_ble_eq_true rfl)⟩ d_U_longTogether_23 (fun r10 σ9 hr10 h => ?_)
        refine v_iadd cx d_U_longTogether_26 ?_
        refine v_nm (fun x11 ex11 => ?_)
        replace h := h x11 ex11
        refine v_istore_n (lv' := [(0, .ref (ad 38)), (1, .int (zI which)), (2, .int (zI x11)), (3, .int (zI y2))]) cx d_U_longTogether_27 rfl (by decide) rfl rfl ?_
        refine v_iinc (lv' := [(0, .ref (ad 38)), (1, .int (zI which)), (2, .int (zI x11)), (3, .int (zI (y2 + 1)))]) cx 3 d_U_longTogether_28 rfl (by decide) rfl rfl ?_
        refine v_goto cx 4 d_U_longTogether_31 (by decide) ?_
        obtain ⟨hI2, hz13, hz14, hm2⟩ := h
        exact ih4 _ _ _ (Nat.lt_of_lt_of_le hm2 (Nat.le_of_lt_succ hmm4)) hI2 hz13 hz14
  exact L4 _ _ _ _ (Nat.lt_succ_self _) h0 ⟨by decide, by decide⟩ ⟨by decide, by decide⟩
def q_U_longestStraight (which : Int) (K : Int → zS → Prop) (σ : zS) : Prop :=
  ∃ (I7 : Int → Int → Int → zS → Prop) (μ7 : Int → Int → Int → zS → Nat), (I7 0 0 0 σ) ∧ ∀ (y1 y2 y3 : Int) (σ4 : zS), I7 y1 y2 y3 σ4 → zR y1 → zR y2 → zR y3 → 
  q_U_steps which (fun r6 σ5 =>
    (r6 ≤ y3 →
      K y1 σ5) ∧ (y3 < r6 →
      ∃ J39 : Int → zS → Prop, (∀ (w8 : Int) (σ9 : zS), J39 w8 σ9 → zR w8 → 
        ∀ x11 : Int, x11 = max y1 w8 → I7 x11 w8 (y3 + 1) σ9 ∧ zR (y3 + 1) ∧ μ7 x11 w8 (y3 + 1) σ9 < μ7 y1 y2 y3 σ4) ∧
      (∃ J38 : zS → Prop, (∀ (σ14 : zS), J38 σ14 → 
          J39 1 σ14) ∧
        ((y3 ≤ 0 →
            J38 σ5) ∧ (0 < y3 →
            q_U_bendAt which y3 (fun r17 σ16 =>
              (r17 ≠ 0 →
                J38 σ16) ∧ (r17 = 0 →
                J39 (y2 + 1) σ16 ∧ zR (y2 + 1))) σ5))))) σ4
abbrev rm_U_longestStraight : Room := { frames := 3, cells := 0, slots := 0, locals := 67 }
set_option maxRecDepth 20000 in
set_option maxHeartbeats 4000000 in
theorem s_U_longestStraight {Ω : zO} {ad : Nat → Nat} {which : Int} {K : Int → zS → Prop} {σ : zS} (hwhich : zR which) (h : q_U_longestStraight which K σ) : zMi Ω y_U_longestStraight (.code y_U_longestStraight c_U_longestStraight 5 (some .int)) rm_U_longestStraight zLy ad [.ref (ad 38), .int (zI which)] σ K := by
  refine z_ofi (lv := [(0, .ref (ad 38)), (1, .int (zI which))]) (by decide) rfl (Nat.le_of_ble_eq_true rfl) ?_
  intro Γ Q cx rt
  unfold q_U_longestStraight at h
  refine v_iconst cx d_U_longestStraight_0 ?_
  refine v_istore_n (lv' := [(0, .ref (ad 38)), (1, .int (zI which)), (2, .int (zI 0))]) cx d_U_longestStraight_1 rfl (by decide) rfl rfl ?_
  refine v_iconst cx d_U_longestStraight_2 ?_
  refine v_istore_n (lv' := [(0, .ref (ad 38)), (1, .int (zI which)), (2, .int (zI 0)), (3, .int (zI 0))]) cx d_U_longestStraight_3 rfl (by decide) rfl rfl ?_
  refine v_iconst cx d_U_longestStraight_4 ?_
  refine v_istore (lv' := [(0, .ref (ad 38)), (1, .int (zI which)), (2, .int (zI 0)), (3, .int (zI 0)), (4, .int (zI 0))]) cx d_U_longestStraight_5 (by decide) rfl rfl ?_
  obtain ⟨I7, μ7, h0, h⟩ := h
  have L7 : ∀ (N7 : Nat) (y1 y2 y3 : Int) (σ4 : zS), μ7 y1 y2 y3 σ4 < N7 → I7 y1 y2 y3 σ4 → zR y1 → zR y2 → zR y3 → zV Ω Γ rm_U_longestStraight 5 Q 0 0 zLy ad σ4 7 [(0, .ref (ad 38)), (1, .int (zI which)), (2, .int (zI y1)), (3, .int (zI y2)), (4, .int (zI y3))] [] := by
    intro N7
    induction N7 with
    | zero => intro y1 y2 y3 σ4 hm; exact absurd hm (Nat.not_lt_zero _)
    | succ N7 ih7 =>
      intro y1 y2 y3 σ4 hmm7 hI hy1 hy2 hy3
      replace h := h y1 y2 y3 σ4 hI hy1 hy2 hy3
      refine v_iload cx 4 d_U_longestStraight_7 rfl ?_
      refine v_aload_n cx 0 d_U_longestStraight_9 rfl rfl ?_
      refine v_iload_n cx 1 d_U_longestStraight_10 rfl rfl ?_
      refine v_callVi0 (st := [.int (zI y3)]) cx (s_U_steps hwhich h) yk_U_steps lk_U_72 zl_38 rfl rfl rfl (Nat.le_of_ble_eq_true rfl) ⟨Nat.le_of_ble_eq_true rfl, Nat.le_of_ble_eq_true rfl⟩ ⟨rfl, rfl⟩ ⟨(Nat.le_of_ble_eq_true rfl), (Nat.le_of_ble_eq_true rfl)⟩ d_U_longestStraight_11 (fun r6 σ5 hr6 h => ?_)
      refine v_icmp_ge cx 52 d_U_longestStraight_14 (by decide) hy3 hr6 (fun c7 => ?_) (fun c7 => ?_)
      · replace h := h.1 c7
        refine v_iload_n cx 2 d_U_longestStraight_52 rfl rfl ?_
        exact rt _ _ _ _ _ _ (Nat.le_of_ble_eq_true rfl) (Nat.le_of_ble_eq_true rfl) d_U_longestStraight_53 hy1 h
      · replace h := h.2 c7
        refine v_iload cx 4 d_U_longestStraight_17 rfl ?_
        obtain ⟨J39, hJ39, h⟩ := h
        have G39 : ∀ (w8 : Int) (σ9 : zS), J39 w8 σ9 → zR w8 → zV Ω Γ rm_U_longestStraight 5 Q 0 0 zLy ad σ9 39 [(0, .ref (ad 38)), (1, .int (zI which)), (2, .int (zI y1)), (4, .int (zI y3))] [.int (zI w8)] := by
          intro w8 σ9 hJ hw8
          replace h := hJ39 w8 σ9 hJ hw8
          refine v_istore_n (lv' := [(0, .ref (ad 38)), (1, .int (zI which)), (2, .int (zI y1)), (4, .int (zI y3)), (3, .int (zI w8))]) cx d_U_longestStraight_39 rfl (by decide) rfl rfl ?_
          refine v_iload_n cx 2 d_U_longestStraight_40 rfl rfl ?_
          refine v_iload_n cx 4 d_U_longestStraight_41 rfl rfl ?_
          refine v_mmax cx lk_U_87 zmath_max.1 zmath_max.2.1 zmath_max.2.2 hy1 hw8 (Nat.le_of_ble_eq_true rfl) (Nat.le_of_ble_eq_true rfl) (Nat.le_of_ble_eq_true rfl) (Nat.le_of_ble_eq_true rfl) d_U_longestStraight_42 (fun hl10 => ?_)
          refine v_nm (fun x11 ex11 => ?_)
          replace h := h x11 ex11
          have hx11 : zR x11 := by rw [ex11]; exact hl10
          refine v_istore_n (lv' := [(0, .ref (ad 38)), (1, .int (zI which)), (2, .int (zI x11)), (4, .int (zI y3)), (3, .int (zI w8))]) cx d_U_longestStraight_45 rfl (by decide) rfl rfl ?_
          refine v_iinc (lv' := [(0, .ref (ad 38)), (1, .int (zI which)), (2, .int (zI x11)), (4, .int (zI (y3 + 1))), (3, .int (zI w8))]) cx 3 d_U_longestStraight_46 rfl (by decide) rfl rfl ?_
          refine v_goto cx 7 d_U_longestStraight_49 (by decide) ?_
          refine v_sb (lv' := [(0, .ref (ad 38)), (1, .int (zI which)), (2, .int (zI x11)), (3, .int (zI w8)), (4, .int (zI (y3 + 1)))]) [0, 1, 2, 4, 3] rfl ?_
          obtain ⟨hI2, hz13, hm2⟩ := h
          exact ih7 _ _ _ _ (Nat.lt_of_lt_of_le hm2 (Nat.le_of_lt_succ hmm7)) hI2 hx11 hw8 hz13
        obtain ⟨J38, hJ38, h⟩ := h
        have G38 : ∀ (σ14 : zS), J38 σ14 → zV Ω Γ rm_U_longestStraight 5 Q 0 0 zLy ad σ14 38 [(0, .ref (ad 38)), (1, .int (zI which)), (2, .int (zI y1)), (4, .int (zI y3))] [] := by
          intro σ14 hJ 
          replace h := hJ38 σ14 hJ 
          refine v_iconst cx d_U_longestStraight_38 ?_
          have hJ2 := h
          exact G39 _ _ hJ2 ⟨by decide, by decide⟩
        refine v_if_le cx 38 d_U_longestStraight_19 (by decide) hy3 (fun c15 => ?_) (fun c15 => ?_)
        · replace h := h.1 c15
          refine v_sb (lv' := [(0, .ref (ad 38)), (1, .int (zI which)), (2, .int (zI y1)), (4, .int (zI y3))]) [0, 1, 2, 4] rfl ?_
          have hJ2 := h
          exact G38 _ hJ2 
        · replace h := h.2 c15
          refine v_aload_n cx 0 d_U_longestStraight_22 rfl rfl ?_
          refine v_iload_n cx 1 d_U_longestStraight_23 rfl rfl ?_
          refine v_iload cx 4 d_U_longestStraight_24 rfl ?_
          refine v_callVi0 (st := []) cx (s_U_bendAt hwhich hy3 h) yk_U_bendAt lk_U_98 zl_38 rfl rfl rfl (Nat.le_of_ble_eq_true rfl) ⟨Nat.le_of_ble_eq_true rfl, Nat.le_of_ble_eq_true rfl⟩ ⟨rfl, rfl⟩ ⟨(Nat.le_of_ble_eq_true rfl), (Nat.le_of_ble_eq_true rfl)⟩ d_U_longestStraight_26 (fun r17 σ16 hr17 h => ?_)
          refine v_if_ne cx 38 d_U_longestStraight_29 (by decide) hr17 (fun c18 => ?_) (fun c18 => ?_)
          · replace h := h.1 c18
            refine v_sb (lv' := [(0, .ref (ad 38)), (1, .int (zI which)), (2, .int (zI y1)), (4, .int (zI y3))]) [0, 1, 2, 4] rfl ?_
            have hJ2 := h
            exact G38 _ hJ2 
          · replace h := h.2 c18
            refine v_iload_n cx 3 d_U_longestStraight_32 rfl rfl ?_
            refine v_iconst cx d_U_longestStraight_33 ?_
            refine v_iadd cx d_U_longestStraight_34 ?_
            refine v_goto cx 39 d_U_longestStraight_35 (by decide) ?_
            refine v_sb (lv' := [(0, .ref (ad 38)), (1, .int (zI which)), (2, .int (zI y1)), (4, .int (zI y3))]) [0, 1, 2, 4] rfl ?_
            obtain ⟨hJ2, hz19⟩ := h
            exact G39 _ _ hJ2 hz19
  exact L7 _ _ _ _ _ (Nat.lt_succ_self _) h0 ⟨by decide, by decide⟩ ⟨by decide, by decide⟩ ⟨by decide, by decide⟩
def q_U_offsetsTogether (which : Int) (K : Int → zS → Prop) (σ : zS) : Prop :=
  ∃ (I4 : Int → Int → zS → Prop) (μ4 : Int → Int → zS → Nat), (I4 0 0 σ) ∧ ∀ (y1 y2 : Int) (σ3 : zS), I4 y1 y2 σ3 → zR y1 → zR y2 → 
  q_L_roadSize which (fun r5 σ4 =>
    (r5 ≤ y2 →
      K y1 σ4) ∧ (y2 < r5 →
      q_L_roadOffset which y2 (fun r8 σ7 =>
        ∀ x9 : Int, x9 = y1 + r8 → I4 x9 (y2 + 1) σ7 ∧ zR x9 ∧ zR (y2 + 1) ∧ μ4 x9 (y2 + 1) σ7 < μ4 y1 y2 σ3) σ4)) σ3
abbrev rm_U_offsetsTogether : Room := { frames := 1, cells := 0, slots := 0, locals := 22 }
set_option maxRecDepth 20000 in
set_option maxHeartbeats 4000000 in
theorem s_U_offsetsTogether {Ω : zO} {ad : Nat → Nat} {which : Int} {K : Int → zS → Prop} {σ : zS} (hwhich : zR which) (h : q_U_offsetsTogether which K σ) : zMi Ω y_U_offsetsTogether (.code y_U_offsetsTogether c_U_offsetsTogether 4 (some .int)) rm_U_offsetsTogether zLy ad [.ref (ad 38), .int (zI which)] σ K := by
  refine z_ofi (lv := [(0, .ref (ad 38)), (1, .int (zI which))]) (by decide) rfl (Nat.le_of_ble_eq_true rfl) ?_
  intro Γ Q cx rt
  unfold q_U_offsetsTogether at h
  refine v_iconst cx d_U_offsetsTogether_0 ?_
  refine v_istore_n (lv' := [(0, .ref (ad 38)), (1, .int (zI which)), (2, .int (zI 0))]) cx d_U_offsetsTogether_1 rfl (by decide) rfl rfl ?_
  refine v_iconst cx d_U_offsetsTogether_2 ?_
  refine v_istore_n (lv' := [(0, .ref (ad 38)), (1, .int (zI which)), (2, .int (zI 0)), (3, .int (zI 0))]) cx d_U_offsetsTogether_3 rfl (by decide) rfl rfl ?_
  obtain ⟨I4, μ4, h0, h⟩ := h
  have L4 : ∀ (N4 : Nat) (y1 y2 : Int) (σ3 : zS), μ4 y1 y2 σ3 < N4 → I4 y1 y2 σ3 → zR y1 → zR y2 → zV Ω Γ rm_U_offsetsTogether 4 Q 0 0 zLy ad σ3 4 [(0, .ref (ad 38)), (1, .int (zI which)), (2, .int (zI y1)), (3, .int (zI y2))] [] := by
    intro N4
    induction N4 with
    | zero => intro y1 y2 σ3 hm; exact absurd hm (Nat.not_lt_zero _)
    | succ N4 ih4 =>
      intro y1 y2 σ3 hmm4 hI hy1 hy2
      replace h := h y1 y2 σ3 hI hy1 hy2
      refine v_iload_n cx 3 d_U_offsetsTogether_4 rfl rfl ?_
      refine v_aload_n cx 0 d_U_offsetsTogether_5 rfl rfl ?_
      refine gf_U_9 cx d_U_offsetsTogether_6 ?_
      refine v_iload_n cx 1 d_U_offsetsTogether_9 rfl rfl ?_
      refine v_callVi0 (st := [.int (zI y2)]) cx (s_L_roadSize hwhich h) yk_L_roadSize lk_U_27 zl_3 rfl rfl rfl (Nat.le_of_ble_eq_true rfl) ⟨Nat.le_of_ble_eq_true rfl, Nat.le_of_ble_eq_true rfl⟩ ⟨rfl, rfl⟩ ⟨(Nat.le_of_ble_eq_true rfl), (Nat.le_of_ble_eq_true rfl)⟩ d_U_offsetsTogether_10 (fun r5 σ4 hr5 h => ?_)
      refine v_icmp_ge cx 34 d_U_offsetsTogether_13 (by decide) hy2 hr5 (fun c6 => ?_) (fun c6 => ?_)
      · replace h := h.1 c6
        refine v_iload_n cx 2 d_U_offsetsTogether_34 rfl rfl ?_
        exact rt _ _ _ _ _ _ (Nat.le_of_ble_eq_true rfl) (Nat.le_of_ble_eq_true rfl) d_U_offsetsTogether_35 hy1 h
      · replace h := h.2 c6
        refine v_iload_n cx 2 d_U_offsetsTogether_16 rfl rfl ?_
        refine v_aload_n cx 0 d_U_offsetsTogether_17 rfl rfl ?_
        refine gf_U_9 cx d_U_offsetsTogether_18 ?_
        refine v_iload_n cx 1 d_U_offsetsTogether_21 rfl rfl ?_
        refine v_iload_n cx 3 d_U_offsetsTogether_22 rfl rfl ?_
        refine v_callVi0 (st := [.int (zI y1)]) cx (s_L_roadOffset hwhich hy2 h) yk_L_roadOffset lk_U_115 zl_3 rfl rfl rfl (Nat.le_of_ble_eq_true rfl) ⟨Nat.le_of_ble_eq_true rfl, Nat.le_of_ble_eq_true rfl⟩ ⟨rfl, rfl⟩ ⟨(Nat.le_of_ble_eq_true rfl), (Nat.le_of_ble_eq_true rfl)⟩ d_U_offsetsTogether_23 (fun r8 σ7 hr8 h => ?_)
        refine v_iadd cx d_U_offsetsTogether_26 ?_
        refine v_nm (fun x9 ex9 => ?_)
        replace h := h x9 ex9
        refine v_istore_n (lv' := [(0, .ref (ad 38)), (1, .int (zI which)), (2, .int (zI x9)), (3, .int (zI y2))]) cx d_U_offsetsTogether_27 rfl (by decide) rfl rfl ?_
        refine v_iinc (lv' := [(0, .ref (ad 38)), (1, .int (zI which)), (2, .int (zI x9)), (3, .int (zI (y2 + 1)))]) cx 3 d_U_offsetsTogether_28 rfl (by decide) rfl rfl ?_
        refine v_goto cx 4 d_U_offsetsTogether_31 (by decide) ?_
        obtain ⟨hI2, hz11, hz12, hm2⟩ := h
        exact ih4 _ _ _ (Nat.lt_of_lt_of_le hm2 (Nat.le_of_lt_succ hmm4)) hI2 hz11 hz12
  exact L4 _ _ _ _ (Nat.lt_succ_self _) h0 ⟨by decide, by decide⟩ ⟨by decide, by decide⟩
def q_U_steepest (which : Int) (K : Int → zS → Prop) (σ : zS) : Prop :=
  ∃ (I10 : Int → Int → Int → Int → zS → Prop) (μ10 : Int → Int → Int → Int → zS → Nat), (I10 0 0 1 0 σ) ∧ ∀ (y1 y2 y3 y4 : Int) (σ5 : zS), I10 y1 y2 y3 y4 σ5 → zR y1 → zR y2 → zR y3 → zR y4 → 
  q_U_steps which (fun r7 σ6 =>
    (r7 ≤ y4 →
      K y1 σ6) ∧ (y4 < r7 →
      zR (y4 + 1) ∧ (q_U_levelAt which (y4 + 1) (fun r11 σ10 =>
          q_U_levelAt which y4 (fun r13 σ12 =>
            zR (r11 - r13) ∧ (∀ x15 : Int, x15 = max (r11 - r13) (-(r11 - r13)) → q_L_roadHeading which y4 (fun r17 σ16 =>
                q_R_longOf r17 (fun r19 σ18 =>
                  zR (x15 * y3) ∧ (zR (y2 * r19) ∧ (((x15 * y3) ≤ (y2 * r19) →
                        I10 y1 y2 y3 (y4 + 1) σ18 ∧ μ10 y1 y2 y3 (y4 + 1) σ18 < μ10 y1 y2 y3 y4 σ5) ∧ ((y2 * r19) < (x15 * y3) →
                        I10 y4 x15 r19 (y4 + 1) σ18 ∧ zR x15 ∧ μ10 y4 x15 r19 (y4 + 1) σ18 < μ10 y1 y2 y3 y4 σ5)))) σ16) σ12)) σ10) σ6))) σ5
abbrev rm_U_steepest : Room := { frames := 2, cells := 0, slots := 0, locals := 45 }
set_option maxRecDepth 20000 in
set_option maxHeartbeats 4000000 in
theorem s_U_steepest {Ω : zO} {ad : Nat → Nat} {which : Int} {K : Int → zS → Prop} {σ : zS} (hwhich : zR which) (h : q_U_steepest which K σ) : zMi Ω y_U_steepest (.code y_U_steepest c_U_steepest 8 (some .int)) rm_U_steepest zLy ad [.ref (ad 38), .int (zI which)] σ K := by
  refine z_ofi (lv := [(0, .ref (ad 38)), (1, .int (zI which))]) (by decide) rfl (Nat.le_of_ble_eq_true rfl) ?_
  intro Γ Q cx rt
  unfold q_U_steepest at h
  refine v_iconst cx d_U_steepest_0 ?_
  refine v_istore_n (lv' := [(0, .ref (ad 38)), (1, .int (zI which)), (2, .int (zI 0))]) cx d_U_steepest_1 rfl (by decide) rfl rfl ?_
  refine v_iconst cx d_U_steepest_2 ?_
  refine v_istore_n (lv' := [(0, .ref (ad 38)), (1, .int (zI which)), (2, .int (zI 0)), (3, .int (zI 0))]) cx d_U_steepest_3 rfl (by decide) rfl rfl ?_
  refine v_iconst cx d_U_steepest_4 ?_
  refine v_istore (lv' := [(0, .ref (ad 38)), (1, .int (zI which)), (2, .int (zI 0)), (3, .int (zI 0)), (4, .int (zI 1))]) cx d_U_steepest_5 (by decide) rfl rfl ?_
  refine v_iconst cx d_U_steepest_7 ?_
  refine v_istore (lv' := [(0, .ref (ad 38)), (1, .int (zI which)), (2, .int (zI 0)), (3, .int (zI 0)), (4, .int (zI 1)), (5, .int (zI 0))]) cx d_U_steepest_8 (by decide) rfl rfl ?_
  obtain ⟨I10, μ10, h0, h⟩ := h
  have L10 : ∀ (N10 : Nat) (y1 y2 y3 y4 : Int) (σ5 : zS), μ10 y1 y2 y3 y4 σ5 < N10 → I10 y1 y2 y3 y4 σ5 → zR y1 → zR y2 → zR y3 → zR y4 → zV Ω Γ rm_U_steepest 8 Q 0 0 zLy ad σ5 10 [(0, .ref (ad 38)), (1, .int (zI which)), (2, .int (zI y1)), (3, .int (zI y2)), (4, .int (zI y3)), (5, .int (zI y4))] [] := by
    intro N10
    induction N10 with
    | zero => intro y1 y2 y3 y4 σ5 hm; exact absurd hm (Nat.not_lt_zero _)
    | succ N10 ih10 =>
      intro y1 y2 y3 y4 σ5 hmm10 hI hy1 hy2 hy3 hy4
      replace h := h y1 y2 y3 y4 σ5 hI hy1 hy2 hy3 hy4
      refine v_iload cx 5 d_U_steepest_10 rfl ?_
      refine v_aload_n cx 0 d_U_steepest_12 rfl rfl ?_
      refine v_iload_n cx 1 d_U_steepest_13 rfl rfl ?_
      refine v_callVi0 (st := [.int (zI y4)]) cx (s_U_steps hwhich h) yk_U_steps lk_U_72 zl_38 rfl rfl rfl (Nat.le_of_ble_eq_true rfl) ⟨Nat.le_of_ble_eq_true rfl, Nat.le_of_ble_eq_true rfl⟩ ⟨rfl, rfl⟩ ⟨(Nat.le_of_ble_eq_true rfl), (Nat.le_of_ble_eq_true rfl)⟩ d_U_steepest_14 (fun r7 σ6 hr7 h => ?_)
      refine v_icmp_ge cx 85 d_U_steepest_17 (by decide) hy4 hr7 (fun c8 => ?_) (fun c8 => ?_)
      · replace h := h.1 c8
        refine v_iload_n cx 2 d_U_steepest_85 rfl rfl ?_
        exact rt _ _ _ _ _ _ (Nat.le_of_ble_eq_true rfl) (Nat.le_of_ble_eq_true rfl) d_U_steepest_86 hy1 h
      · replace h := h.2 c8
        refine v_aload_n cx 0 d_U_steepest_20 rfl rfl ?_
        refine v_iload_n cx 1 d_U_steepest_21 rfl rfl ?_
        refine v_iload cx 5 d_U_steepest_22 rfl ?_
        refine v_iconst cx d_U_steepest_24 ?_
        refine v_iadd cx d_U_steepest_25 ?_
        obtain ⟨hr9, h⟩ := h
        refine v_callVi0 (st := []) cx (s_U_levelAt hwhich hr9 h) yk_U_levelAt lk_U_118 zl_38 rfl rfl rfl (Nat.le_of_ble_eq_true rfl) ⟨Nat.le_of_ble_eq_true rfl, Nat.le_of_ble_eq_true rfl⟩ ⟨rfl, rfl⟩ ⟨(Nat.le_of_ble_eq_true rfl), (Nat.le_of_ble_eq_true rfl)⟩ d_U_steepest_26 (fun r11 σ10 hr11 h => ?_)
        refine v_aload_n cx 0 d_U_steepest_29 rfl rfl ?_
        refine v_iload_n cx 1 d_U_steepest_30 rfl rfl ?_
        refine v_iload cx 5 d_U_steepest_31 rfl ?_
        refine v_callVi0 (st := [.int (zI r11)]) cx (s_U_levelAt hwhich hy4 h) yk_U_levelAt lk_U_118 zl_38 rfl rfl rfl (Nat.le_of_ble_eq_true rfl) ⟨Nat.le_of_ble_eq_true rfl, Nat.le_of_ble_eq_true rfl⟩ ⟨rfl, rfl⟩ ⟨(Nat.le_of_ble_eq_true rfl), (Nat.le_of_ble_eq_true rfl)⟩ d_U_steepest_33 (fun r13 σ12 hr13 h => ?_)
        refine v_isub cx d_U_steepest_36 ?_
        obtain ⟨hr14, h⟩ := h
        refine v_mabs cx lk_U_121 zmath_abs.1 zmath_abs.2.1 zmath_abs.2.2 hr14 (Nat.le_of_ble_eq_true rfl) (Nat.le_of_ble_eq_true rfl) (Nat.le_of_ble_eq_true rfl) (Nat.le_of_ble_eq_true rfl) d_U_steepest_37 ?_
        refine v_nm (fun x15 ex15 => ?_)
        replace h := h x15 ex15
        refine v_istore (lv' := [(0, .ref (ad 38)), (1, .int (zI which)), (2, .int (zI y1)), (3, .int (zI y2)), (4, .int (zI y3)), (5, .int (zI y4)), (6, .int (zI x15))]) cx d_U_steepest_40 (by decide) rfl rfl ?_
        refine v_aload_n cx 0 d_U_steepest_42 rfl rfl ?_
        refine gf_U_9 cx d_U_steepest_43 ?_
        refine v_iload_n cx 1 d_U_steepest_46 rfl rfl ?_
        refine v_iload cx 5 d_U_steepest_47 rfl ?_
        refine v_callVi0 (st := []) cx (s_L_roadHeading hwhich hy4 h) yk_L_roadHeading lk_U_75 zl_3 rfl rfl rfl (Nat.le_of_ble_eq_true rfl) ⟨Nat.le_of_ble_eq_true rfl, Nat.le_of_ble_eq_true rfl⟩ ⟨rfl, rfl⟩ ⟨(Nat.le_of_ble_eq_true rfl), (Nat.le_of_ble_eq_true rfl)⟩ d_U_steepest_49 (fun r17 σ16 hr17 h => ?_)
        refine v_callNi0 (st := []) cx (s_R_longOf hr17 h) yk_R_longOf ln_U_78 rfl rfl (Nat.le_of_ble_eq_true rfl) ⟨Nat.le_of_ble_eq_true rfl, Nat.le_of_ble_eq_true rfl⟩ ⟨rfl, rfl⟩ ⟨(Nat.le_of_ble_eq_true rfl), (Nat.le_of_ble_eq_true rfl)⟩ d_U_steepest_52 (fun r19 σ18 hr19 h => ?_)
        refine v_istore (lv' := [(0, .ref (ad 38)), (1, .int (zI which)), (2, .int (zI y1)), (3, .int (zI y2)), (4, .int (zI y3)), (5, .int (zI y4)), (6, .int (zI x15)), (7, .int (zI r19))]) cx d_U_steepest_55 (by decide) rfl rfl ?_
        refine v_iload cx 6 d_U_steepest_57 rfl ?_
        refine v_iload cx 4 d_U_steepest_59 rfl ?_
        refine v_imul cx d_U_steepest_61 ?_
        refine v_iload_n cx 3 d_U_steepest_62 rfl rfl ?_
        refine v_iload cx 7 d_U_steepest_63 rfl ?_
        refine v_imul cx d_U_steepest_65 ?_
        obtain ⟨hr20, h⟩ := h
        obtain ⟨hr21, h⟩ := h
        refine v_icmp_le cx 79 d_U_steepest_66 (by decide) hr20 hr21 (fun c22 => ?_) (fun c22 => ?_)
        · replace h := h.1 c22
          refine v_iinc (lv' := [(0, .ref (ad 38)), (1, .int (zI which)), (2, .int (zI y1)), (3, .int (zI y2)), (4, .int (zI y3)), (5, .int (zI (y4 + 1))), (6, .int (zI x15)), (7, .int (zI r19))]) cx 5 d_U_steepest_79 rfl (by decide) rfl rfl ?_
          refine v_goto cx 10 d_U_steepest_82 (by decide) ?_
          refine v_sb (lv' := [(0, .ref (ad 38)), (1, .int (zI which)), (2, .int (zI y1)), (3, .int (zI y2)), (4, .int (zI y3)), (5, .int (zI (y4 + 1)))]) [0, 1, 2, 3, 4, 5] rfl ?_
          obtain ⟨hI2, hm2⟩ := h
          exact ih10 _ _ _ _ _ (Nat.lt_of_lt_of_le hm2 (Nat.le_of_lt_succ hmm10)) hI2 hy1 hy2 hy3 hr9
        · replace h := h.2 c22
          refine v_iload cx 5 d_U_steepest_69 rfl ?_
          refine v_istore_n (lv' := [(0, .ref (ad 38)), (1, .int (zI which)), (2, .int (zI y4)), (3, .int (zI y2)), (4, .int (zI y3)), (5, .int (zI y4)), (6, .int (zI x15)), (7, .int (zI r19))]) cx d_U_steepest_71 rfl (by decide) rfl rfl ?_
          refine v_iload cx 6 d_U_steepest_72 rfl ?_
          refine v_istore_n (lv' := [(0, .ref (ad 38)), (1, .int (zI which)), (2, .int (zI y4)), (3, .int (zI x15)), (4, .int (zI y3)), (5, .int (zI y4)), (6, .int (zI x15)), (7, .int (zI r19))]) cx d_U_steepest_74 rfl (by decide) rfl rfl ?_
          refine v_iload cx 7 d_U_steepest_75 rfl ?_
          refine v_istore (lv' := [(0, .ref (ad 38)), (1, .int (zI which)), (2, .int (zI y4)), (3, .int (zI x15)), (4, .int (zI r19)), (5, .int (zI y4)), (6, .int (zI x15)), (7, .int (zI r19))]) cx d_U_steepest_77 (by decide) rfl rfl ?_
          refine v_iinc (lv' := [(0, .ref (ad 38)), (1, .int (zI which)), (2, .int (zI y4)), (3, .int (zI x15)), (4, .int (zI r19)), (5, .int (zI (y4 + 1))), (6, .int (zI x15)), (7, .int (zI r19))]) cx 5 d_U_steepest_79 rfl (by decide) rfl rfl ?_
          refine v_goto cx 10 d_U_steepest_82 (by decide) ?_
          refine v_sb (lv' := [(0, .ref (ad 38)), (1, .int (zI which)), (2, .int (zI y4)), (3, .int (zI x15)), (4, .int (zI r19)), (5, .int (zI (y4 + 1)))]) [0, 1, 2, 3, 4, 5] rfl ?_
          obtain ⟨hI2, hz25, hm2⟩ := h
          exact ih10 _ _ _ _ _ (Nat.lt_of_lt_of_le hm2 (Nat.le_of_lt_succ hmm10)) hI2 hy4 hz25 hr19 hr9
  exact L10 _ _ _ _ _ _ (Nat.lt_succ_self _) h0 ⟨by decide, by decide⟩ ⟨by decide, by decide⟩ ⟨by decide, by decide⟩ ⟨by decide, by decide⟩
theorem zto_U_answer_1 {a : Int} (h0 : a ≠ 0) (h1 : a ≠ 1) (h2 : a ≠ 2) (h3 : a ≠ 3) (h4 : a ≠ 4) (h5 : a ≠ 5) (h6 : a ≠ 6) (h7 : a ≠ 7) (h8 : a ≠ 8) (h9 : a ≠ 9) (h10 : a ≠ 10) (h11 : a ≠ 11) (h12 : a ≠ 12) (h13 : a ≠ 13) : a < 0 ∨ 13 < a := by omega
def q_U_answer (which : Int) (what : Int) (K : Int → zS → Prop) (σ : zS) : Prop :=
  (what = 0 →
    q_L_roadSize which (fun r3 σ2 =>
      K r3 σ2) σ) ∧ (what = 1 →
    q_U_longTogether which (fun r6 σ5 =>
      K r6 σ5) σ) ∧ (what = 2 →
    q_U_climbed which 1 (fun r9 σ8 =>
      K r9 σ8) σ) ∧ (what = 3 →
    q_U_costTogether which (fun r12 σ11 =>
      K r12 σ11) σ) ∧ (what = 4 →
    q_U_hairpins which (fun r15 σ14 =>
      K r15 σ14) σ) ∧ (what = 5 →
    q_U_firstBrokenStep which (fun r18 σ17 =>
      K r18 σ17) σ) ∧ (what = 6 →
    q_U_firstBrokenBend which (fun r21 σ20 =>
      K r21 σ20) σ) ∧ (what = 7 →
    q_U_steepest which (fun r24 σ23 =>
      K r24 σ23) σ) ∧ (what = 8 →
    q_U_earthTogether which (fun r27 σ26 =>
      K r27 σ26) σ) ∧ (what = 9 →
    q_U_offsetsTogether which (fun r30 σ29 =>
      K r30 σ29) σ) ∧ (what = 10 →
    q_G_leastRule which (fun r33 σ32 =>
      K r33 σ32) σ) ∧ (what = 11 →
    q_U_greatestLevel which 1 (fun r36 σ35 =>
      K r36 σ35) σ) ∧ (what = 12 →
    q_U_greatestLevel which (-1) (fun r39 σ38 =>
      zR (-r39) ∧ (K (-r39) σ38)) σ) ∧ (what = 13 →
    q_U_longestStraight which (fun r43 σ42 =>
      K r43 σ42) σ) ∧ (what ≠ 0 ∧ what ≠ 1 ∧ what ≠ 2 ∧ what ≠ 3 ∧ what ≠ 4 ∧ what ≠ 5 ∧ what ≠ 6 ∧ what ≠ 7 ∧ what ≠ 8 ∧ what ≠ 9 ∧ what ≠ 10 ∧ what ≠ 11 ∧ what ≠ 12 ∧ what ≠ 13 →
    q_U_climbed which (-1) (fun r45 σ44 =>
      K r45 σ44) σ)
abbrev rm_U_answer : Room := { frames := 6, cells := 0, slots := 0, locals := 147 }
set_option maxRecDepth 20000 in
set_option maxHeartbeats 4000000 in
theorem s_U_answer {Ω : zO} {ad : Nat → Nat} {which : Int} {what : Int} {K : Int → zS → Prop} {σ : zS} (hwhich : zR which) (hwhat : zR what) (h : q_U_answer which what K σ) : zMi Ω y_U_answer (.code y_U_answer c_U_answer 3 (some .int)) rm_U_answer zLy ad [.ref (ad 38), .int (zI which), .int (zI what)] σ K := by
  refine z_ofi (lv := [(0, .ref (ad 38)), (1, .int (zI which)), (2, .int (zI what))]) (by decide) rfl (Nat.le_of_ble_eq_true rfl) ?_
  intro Γ Q cx rt
  unfold q_U_answer at h
  refine v_iload_n cx 2 d_U_answer_0 rfl rfl ?_
  by_cases c1 : what = 0
  · replace h := h.1 c1
    refine v_tableIn cx 72 d_U_answer_1 hwhat (by rw [c1]; decide) (by rw [c1]; decide) (by rw [c1]; rfl) (by decide) ?_
    refine v_aload_n cx 0 d_U_answer_72 rfl rfl ?_
    refine gf_U_9 cx d_U_answer_73 ?_
    refine v_iload_n cx 1 d_U_answer_76 rfl rfl ?_
    refine v_callVi0 (st := []) cx (s_L_roadSize hwhich h) yk_L_roadSize lk_U_27 zl_3 rfl rfl rfl (Nat.le_of_ble_eq_true rfl) ⟨Nat.le_of_ble_eq_true rfl, Nat.le_of_ble_eq_true rfl⟩ ⟨rfl, rfl⟩ ⟨(Nat.le_of_ble_eq_true rfl), (Nat.le_of_ble_eq_true rfl)⟩ d_U_answer_77 (fun r3 σ2 hr3 h => ?_)
    exact rt _ _ _ _ _ _ (Nat.le_of_ble_eq_true rfl) (Nat.le_of_ble_eq_true rfl) d_U_answer_80 hr3 h
  replace h := h.2
  by_cases c4 : what = 1
  · replace h := h.1 c4
    refine v_tableIn cx 81 d_U_answer_1 hwhat (by rw [c4]; decide) (by rw [c4]; decide) (by rw [c4]; rfl) (by decide) ?_
    refine v_aload_n cx 0 d_U_answer_81 rfl rfl ?_
    refine v_iload_n cx 1 d_U_answer_82 rfl rfl ?_
    refine v_callVi0 (st := []) cx (s_U_longTogether hwhich h) yk_U_longTogether lk_U_33 zl_38 rfl rfl rfl (Nat.le_of_ble_eq_true rfl) ⟨Nat.le_of_ble_eq_true rfl, Nat.le_of_ble_eq_true rfl⟩ ⟨rfl, rfl⟩ ⟨(Nat.le_of_ble_eq_true rfl), (Nat.le_of_ble_eq_true rfl)⟩ d_U_answer_83 (fun r6 σ5 hr6 h => ?_)
    exact rt _ _ _ _ _ _ (Nat.le_of_ble_eq_true rfl) (Nat.le_of_ble_eq_true rfl) d_U_answer_86 hr6 h
  replace h := h.2
  by_cases c7 : what = 2
  · replace h := h.1 c7
    refine v_tableIn cx 87 d_U_answer_1 hwhat (by rw [c7]; decide) (by rw [c7]; decide) (by rw [c7]; rfl) (by decide) ?_
    refine v_aload_n cx 0 d_U_answer_87 rfl rfl ?_
    refine v_iload_n cx 1 d_U_answer_88 rfl rfl ?_
    refine v_iconst cx d_U_answer_89 ?_
    refine v_callVi0 (st := []) cx (s_U_climbed hwhich ⟨by decide, by decide⟩ h) yk_U_climbed lk_U_36 zl_38 rfl rfl rfl (Nat.le_of_ble_eq_true rfl) ⟨Nat.le_of_ble_eq_true rfl, Nat.le_of_ble_eq_true rfl⟩ ⟨rfl, rfl⟩ ⟨(Nat.le_of_ble_eq_true rfl), (Nat.le_of_ble_eq_true rfl)⟩ d_U_answer_90 (fun r9 σ8 hr9 h => ?_)
    exact rt _ _ _ _ _ _ (Nat.le_of_ble_eq_true rfl) (Nat.le_of_ble_eq_true rfl) d_U_answer_93 hr9 h
  replace h := h.2
  by_cases c10 : what = 3
  · replace h := h.1 c10
    refine v_tableIn cx 94 d_U_answer_1 hwhat (by rw [c10]; decide) (by rw [c10]; decide) (by rw [c10]; rfl) (by decide) ?_
    refine v_aload_n cx 0 d_U_answer_94 rfl rfl ?_
    refine v_iload_n cx 1 d_U_answer_95 rfl rfl ?_
    refine v_callVi0 (st := []) cx (s_U_costTogether hwhich h) yk_U_costTogether lk_U_40 zl_38 rfl rfl rfl (Nat.le_of_ble_eq_true rfl) ⟨Nat.le_of_ble_eq_true rfl, Nat.le_of_ble_eq_true rfl⟩ ⟨rfl, rfl⟩ ⟨(Nat.le_of_ble_eq_true rfl), (Nat.le_of_ble_eq_true rfl)⟩ d_U_answer_96 (fun r12 σ11 hr12 h => ?_)
    exact rt _ _ _ _ _ _ (Nat.le_of_ble_eq_true rfl) (Nat.le_of_ble_eq_true rfl) d_U_answer_99 hr12 h
  replace h := h.2
  by_cases c13 : what = 4
  · replace h := h.1 c13
    refine v_tableIn cx 100 d_U_answer_1 hwhat (by rw [c13]; decide) (by rw [c13]; decide) (by rw [c13]; rfl) (by decide) ?_
    refine v_aload_n cx 0 d_U_answer_100 rfl rfl ?_
    refine v_iload_n cx 1 d_U_answer_101 rfl rfl ?_
    refine v_callVi0 (st := []) cx (s_U_hairpins hwhich h) yk_U_hairpins lk_U_43 zl_38 rfl rfl rfl (Nat.le_of_ble_eq_true rfl) ⟨Nat.le_of_ble_eq_true rfl, Nat.le_of_ble_eq_true rfl⟩ ⟨rfl, rfl⟩ ⟨(Nat.le_of_ble_eq_true rfl), (Nat.le_of_ble_eq_true rfl)⟩ d_U_answer_102 (fun r15 σ14 hr15 h => ?_)
    exact rt _ _ _ _ _ _ (Nat.le_of_ble_eq_true rfl) (Nat.le_of_ble_eq_true rfl) d_U_answer_105 hr15 h
  replace h := h.2
  by_cases c16 : what = 5
  · replace h := h.1 c16
    refine v_tableIn cx 106 d_U_answer_1 hwhat (by rw [c16]; decide) (by rw [c16]; decide) (by rw [c16]; rfl) (by decide) ?_
    refine v_aload_n cx 0 d_U_answer_106 rfl rfl ?_
    refine v_iload_n cx 1 d_U_answer_107 rfl rfl ?_
    refine v_callVi0 (st := []) cx (s_U_firstBrokenStep hwhich h) yk_U_firstBrokenStep lk_U_46 zl_38 rfl rfl rfl (Nat.le_of_ble_eq_true rfl) ⟨Nat.le_of_ble_eq_true rfl, Nat.le_of_ble_eq_true rfl⟩ ⟨rfl, rfl⟩ ⟨(Nat.le_of_ble_eq_true rfl), (Nat.le_of_ble_eq_true rfl)⟩ d_U_answer_108 (fun r18 σ17 hr18 h => ?_)
    exact rt _ _ _ _ _ _ (Nat.le_of_ble_eq_true rfl) (Nat.le_of_ble_eq_true rfl) d_U_answer_111 hr18 h
  replace h := h.2
  by_cases c19 : what = 6
  · replace h := h.1 c19
    refine v_tableIn cx 112 d_U_answer_1 hwhat (by rw [c19]; decide) (by rw [c19]; decide) (by rw [c19]; rfl) (by decide) ?_
    refine v_aload_n cx 0 d_U_answer_112 rfl rfl ?_
    refine v_iload_n cx 1 d_U_answer_113 rfl rfl ?_
    refine v_callVi0 (st := []) cx (s_U_firstBrokenBend hwhich h) yk_U_firstBrokenBend lk_U_49 zl_38 rfl rfl rfl (Nat.le_of_ble_eq_true rfl) ⟨Nat.le_of_ble_eq_true rfl, Nat.le_of_ble_eq_true rfl⟩ ⟨rfl, rfl⟩ ⟨(Nat.le_of_ble_eq_true rfl), (Nat.le_of_ble_eq_true rfl)⟩ d_U_answer_114 (fun r21 σ20 hr21 h => ?_)
    exact rt _ _ _ _ _ _ (Nat.le_of_ble_eq_true rfl) (Nat.le_of_ble_eq_true rfl) d_U_answer_117 hr21 h
  replace h := h.2
  by_cases c22 : what = 7
  · replace h := h.1 c22
    refine v_tableIn cx 118 d_U_answer_1 hwhat (by rw [c22]; decide) (by rw [c22]; decide) (by rw [c22]; rfl) (by decide) ?_
    refine v_aload_n cx 0 d_U_answer_118 rfl rfl ?_
    refine v_iload_n cx 1 d_U_answer_119 rfl rfl ?_
    refine v_callVi0 (st := []) cx (s_U_steepest hwhich h) yk_U_steepest lk_U_52 zl_38 rfl rfl rfl (Nat.le_of_ble_eq_true rfl) ⟨Nat.le_of_ble_eq_true rfl, Nat.le_of_ble_eq_true rfl⟩ ⟨rfl, rfl⟩ ⟨(Nat.le_of_ble_eq_true rfl), (Nat.le_of_ble_eq_true rfl)⟩ d_U_answer_120 (fun r24 σ23 hr24 h => ?_)
    exact rt _ _ _ _ _ _ (Nat.le_of_ble_eq_true rfl) (Nat.le_of_ble_eq_true rfl) d_U_answer_123 hr24 h
  replace h := h.2
  by_cases c25 : what = 8
  · replace h := h.1 c25
    refine v_tableIn cx 124 d_U_answer_1 hwhat (by rw [c25]; decide) (by rw [c25]; decide) (by rw [c25]; rfl) (by decide) ?_
    refine v_aload_n cx 0 d_U_answer_124 rfl rfl ?_
    refine v_iload_n cx 1 d_U_answer_125 rfl rfl ?_
    refine v_callVi0 (st := []) cx (s_U_earthTogether hwhich h) yk_U_earthTogether lk_U_55 zl_38 rfl rfl rfl (Nat.le_of_ble_eq_true rfl) ⟨Nat.le_of_ble_eq_true rfl, Nat.le_of_ble_eq_true rfl⟩ ⟨rfl, rfl⟩ ⟨(Nat.le_of_ble_eq_true rfl), (Nat.le_of_ble_eq_true rfl)⟩ d_U_answer_126 (fun r27 σ26 hr27 h => ?_)
    exact rt _ _ _ _ _ _ (Nat.le_of_ble_eq_true rfl) (Nat.le_of_ble_eq_true rfl) d_U_answer_129 hr27 h
  replace h := h.2
  by_cases c28 : what = 9
  · replace h := h.1 c28
    refine v_tableIn cx 130 d_U_answer_1 hwhat (by rw [c28]; decide) (by rw [c28]; decide) (by rw [c28]; rfl) (by decide) ?_
    refine v_aload_n cx 0 d_U_answer_130 rfl rfl ?_
    refine v_iload_n cx 1 d_U_answer_131 rfl rfl ?_
    refine v_callVi0 (st := []) cx (s_U_offsetsTogether hwhich h) yk_U_offsetsTogether lk_U_58 zl_38 rfl rfl rfl (Nat.le_of_ble_eq_true rfl) ⟨Nat.le_of_ble_eq_true rfl, Nat.le_of_ble_eq_true rfl⟩ ⟨rfl, rfl⟩ ⟨(Nat.le_of_ble_eq_true rfl), (Nat.le_of_ble_eq_true rfl)⟩ d_U_answer_132 (fun r30 σ29 hr30 h => ?_)
    exact rt _ _ _ _ _ _ (Nat.le_of_ble_eq_true rfl) (Nat.le_of_ble_eq_true rfl) d_U_answer_135 hr30 h
  replace h := h.2
  by_cases c31 : what = 10
  · replace h := h.1 c31
    refine v_tableIn cx 136 d_U_answer_1 hwhat (by rw [c31]; decide) (by rw [c31]; decide) (by rw [c31]; rfl) (by decide) ?_
    refine v_aload_n cx 0 d_U_answer_136 rfl rfl ?_
    refine gf_U_15 cx d_U_answer_137 ?_
    refine v_iload_n cx 1 d_U_answer_140 rfl rfl ?_
    refine v_callVi0 (st := []) cx (s_G_leastRule hwhich h) yk_G_leastRule lk_U_61 zl_35 rfl rfl rfl (Nat.le_of_ble_eq_true rfl) ⟨Nat.le_of_ble_eq_true rfl, Nat.le_of_ble_eq_true rfl⟩ ⟨rfl, rfl⟩ ⟨(Nat.le_of_ble_eq_true rfl), (Nat.le_of_ble_eq_true rfl)⟩ d_U_answer_141 (fun r33 σ32 hr33 h => ?_)
    exact rt _ _ _ _ _ _ (Nat.le_of_ble_eq_true rfl) (Nat.le_of_ble_eq_true rfl) d_U_answer_144 hr33 h
  replace h := h.2
  by_cases c34 : what = 11
  · replace h := h.1 c34
    refine v_tableIn cx 145 d_U_answer_1 hwhat (by rw [c34]; decide) (by rw [c34]; decide) (by rw [c34]; rfl) (by decide) ?_
    refine v_aload_n cx 0 d_U_answer_145 rfl rfl ?_
    refine v_iload_n cx 1 d_U_answer_146 rfl rfl ?_
    refine v_iconst cx d_U_answer_147 ?_
    refine v_callVi0 (st := []) cx (s_U_greatestLevel hwhich ⟨by decide, by decide⟩ h) yk_U_greatestLevel lk_U_66 zl_38 rfl rfl rfl (Nat.le_of_ble_eq_true rfl) ⟨Nat.le_of_ble_eq_true rfl, Nat.le_of_ble_eq_true rfl⟩ ⟨rfl, rfl⟩ ⟨(Nat.le_of_ble_eq_true rfl), (Nat.le_of_ble_eq_true rfl)⟩ d_U_answer_148 (fun r36 σ35 hr36 h => ?_)
    exact rt _ _ _ _ _ _ (Nat.le_of_ble_eq_true rfl) (Nat.le_of_ble_eq_true rfl) d_U_answer_151 hr36 h
  replace h := h.2
  by_cases c37 : what = 12
  · replace h := h.1 c37
    refine v_tableIn cx 152 d_U_answer_1 hwhat (by rw [c37]; decide) (by rw [c37]; decide) (by rw [c37]; rfl) (by decide) ?_
    refine v_aload_n cx 0 d_U_answer_152 rfl rfl ?_
    refine v_iload_n cx 1 d_U_answer_153 rfl rfl ?_
    refine v_iconst cx d_U_answer_154 ?_
    refine v_callVi0 (st := []) cx (s_U_greatestLevel hwhich ⟨by decide, by decide⟩ h) yk_U_greatestLevel lk_U_66 zl_38 rfl rfl rfl (Nat.le_of_ble_eq_true rfl) ⟨Nat.le_of_ble_eq_true rfl, Nat.le_of_ble_eq_true rfl⟩ ⟨rfl, rfl⟩ ⟨(Nat.le_of_ble_eq_true rfl), (Nat.le_of_ble_eq_true rfl)⟩ d_U_answer_155 (fun r39 σ38 hr39 h => ?_)
    refine v_ineg cx d_U_answer_158 ?_
    obtain ⟨hr40, h⟩ := h
    exact rt _ _ _ _ _ _ (Nat.le_of_ble_eq_true rfl) (Nat.le_of_ble_eq_true rfl) d_U_answer_159 hr40 h
  replace h := h.2
  by_cases c41 : what = 13
  · replace h := h.1 c41
    refine v_tableIn cx 160 d_U_answer_1 hwhat (by rw [c41]; decide) (by rw [c41]; decide) (by rw [c41]; rfl) (by decide) ?_
    refine v_aload_n cx 0 d_U_answer_160 rfl rfl ?_
    refine v_iload_n cx 1 d_U_answer_161 rfl rfl ?_
    refine v_callVi0 (st := []) cx (s_U_longestStraight hwhich h) yk_U_longestStraight lk_U_69 zl_38 rfl rfl rfl (Nat.le_of_ble_eq_true rfl) ⟨Nat.le_of_ble_eq_true rfl, Nat.le_of_ble_eq_true rfl⟩ ⟨rfl, rfl⟩ ⟨(Nat.le_of_ble_eq_true rfl), (Nat.le_of_ble_eq_true rfl)⟩ d_U_answer_162 (fun r43 σ42 hr43 h => ?_)
    exact rt _ _ _ _ _ _ (Nat.le_of_ble_eq_true rfl) (Nat.le_of_ble_eq_true rfl) d_U_answer_165 hr43 h
  replace h := h.2
  replace h := h ⟨c1, c4, c7, c10, c13, c16, c19, c22, c25, c28, c31, c34, c37, c41⟩
  refine v_tableOut cx 166 d_U_answer_1 hwhat (zto_U_answer_1 c1 c4 c7 c10 c13 c16 c19 c22 c25 c28 c31 c34 c37 c41) (by decide) ?_
  refine v_aload_n cx 0 d_U_answer_166 rfl rfl ?_
  refine v_iload_n cx 1 d_U_answer_167 rfl rfl ?_
  refine v_iconst cx d_U_answer_168 ?_
  refine v_callVi0 (st := []) cx (s_U_climbed hwhich ⟨by decide, by decide⟩ h) yk_U_climbed lk_U_36 zl_38 rfl rfl rfl (Nat.le_of_ble_eq_true rfl) ⟨Nat.le_of_ble_eq_true rfl, Nat.le_of_ble_eq_true rfl⟩ ⟨rfl, rfl⟩ ⟨(Nat.le_of_ble_eq_true rfl), (Nat.le_of_ble_eq_true rfl)⟩ d_U_answer_169 (fun r45 σ44 hr45 h => ?_)
  exact rt _ _ _ _ _ _ (Nat.le_of_ble_eq_true rfl) (Nat.le_of_ble_eq_true rfl) d_U_answer_172 hr45 h
def q_U_bridgesOver (which : Int) (n_ : Int) (K : Int → zS → Prop) (σ : zS) : Prop :=
  q_S_gather (fun σ1 =>
    q_J_fill2 39 81 0 (fun σ2 =>
      ∃ (I20 : Int → Int → zS → Prop) (μ20 : Int → Int → zS → Nat), (I20 0 0 σ2) ∧ ∀ (y3 y4 : Int) (σ5 : zS), I20 y3 y4 σ5 → zR y3 → zR y4 → 
      q_L_roadSize which (fun r7 σ6 =>
        (r7 ≤ y4 →
          K y3 σ6) ∧ (y4 < r7 →
          q_L_roadPlace which y4 (fun r10 σ9 =>
            (0 ≤ r10 ∧ r10 < 81) ∧ (((σ9 39 r10) ≠ 0 →
                ∀ σ14 : zS, σ14 = zU σ9 39 r10 1 → I20 y3 (y4 + 1) σ14 ∧ zR (y4 + 1) ∧ μ20 y3 (y4 + 1) σ14 < μ20 y3 y4 σ5) ∧ ((σ9 39 r10) = 0 →
                q_S_catchOf r10 (fun r18 σ17 =>
                  (r18 < n_ →
                    ∀ σ20 : zS, σ20 = zU σ17 39 r10 1 → I20 y3 (y4 + 1) σ20 ∧ zR (y4 + 1) ∧ μ20 y3 (y4 + 1) σ20 < μ20 y3 y4 σ5) ∧ (n_ ≤ r18 →
                    ∀ σ24 : zS, σ24 = zU σ17 39 r10 1 → I20 (y3 + 1) (y4 + 1) σ24 ∧ zR (y3 + 1) ∧ zR (y4 + 1) ∧ μ20 (y3 + 1) (y4 + 1) σ24 < μ20 y3 y4 σ5)) σ9))) σ6)) σ5) σ1) σ
abbrev rm_U_bridgesOver : Room := { frames := 3, cells := 0, slots := 0, locals := 71 }
set_option maxRecDepth 20000 in
set_option maxHeartbeats 4000000 in
theorem s_U_bridgesOver {Ω : zO} {ad : Nat → Nat} {which : Int} {n_ : Int} {K : Int → zS → Prop} {σ : zS} (hwhich : zR which) (hn_ : zR n_) (h : q_U_bridgesOver which n_ K σ) : zMi Ω y_U_bridgesOver (.code y_U_bridgesOver c_U_bridgesOver 6 (some .int)) rm_U_bridgesOver zLy ad [.ref (ad 38), .int (zI which), .int (zI n_)] σ K := by
  refine z_ofi (lv := [(0, .ref (ad 38)), (1, .int (zI which)), (2, .int (zI n_))]) (by decide) rfl (Nat.le_of_ble_eq_true rfl) ?_
  intro Γ Q cx rt
  unfold q_U_bridgesOver at h
  refine v_iconst cx d_U_bridgesOver_0 ?_
  refine v_istore_n (lv' := [(0, .ref (ad 38)), (1, .int (zI which)), (2, .int (zI n_)), (3, .int (zI 0))]) cx d_U_bridgesOver_1 rfl (by decide) rfl rfl ?_
  refine v_aload_n cx 0 d_U_bridgesOver_2 rfl rfl ?_
  refine gf_U_19 cx d_U_bridgesOver_3 ?_
  refine v_callVv0 (st := []) cx (s_S_gather  h) yk_S_gather lk_U_128 zl_11 rfl rfl rfl (Nat.le_of_ble_eq_true rfl) ⟨Nat.le_of_ble_eq_true rfl, Nat.le_of_ble_eq_true rfl⟩ ⟨rfl, rfl⟩ ⟨(Nat.le_of_ble_eq_true rfl), (Nat.le_of_ble_eq_true rfl)⟩ d_U_bridgesOver_6 (fun σ1 h => ?_)
  refine v_aload_n cx 0 d_U_bridgesOver_9 rfl rfl ?_
  refine gf_U_23 cx d_U_bridgesOver_10 ?_
  refine v_iconst cx d_U_bridgesOver_13 ?_
  refine v_callSv0 (st := []) cx (s_J_fill2 (o := 39) zl_39 (by decide) ⟨by decide, by decide⟩ h) yk_J_fill2 lk_U_133 rfl rfl (Nat.le_of_ble_eq_true rfl) ⟨Nat.le_of_ble_eq_true rfl, Nat.le_of_ble_eq_true rfl⟩ ⟨rfl, rfl⟩ ⟨Nat.le_of_ble_eq_true rfl, Nat.le_of_ble_eq_true rfl⟩ d_U_bridgesOver_14 (fun σ2 h => ?_)
  refine v_iconst cx d_U_bridgesOver_17 ?_
  refine v_istore (lv' := [(0, .ref (ad 38)), (1, .int (zI which)), (2, .int (zI n_)), (3, .int (zI 0)), (4, .int (zI 0))]) cx d_U_bridgesOver_18 (by decide) rfl rfl ?_
  obtain ⟨I20, μ20, h0, h⟩ := h
  have L20 : ∀ (N20 : Nat) (y3 y4 : Int) (σ5 : zS), μ20 y3 y4 σ5 < N20 → I20 y3 y4 σ5 → zR y3 → zR y4 → zV Ω Γ rm_U_bridgesOver 6 Q 0 0 zLy ad σ5 20 [(0, .ref (ad 38)), (1, .int (zI which)), (2, .int (zI n_)), (3, .int (zI y3)), (4, .int (zI y4))] [] := by
    intro N20
    induction N20 with
    | zero => intro y3 y4 σ5 hm; exact absurd hm (Nat.not_lt_zero _)
    | succ N20 ih20 =>
      intro y3 y4 σ5 hmm20 hI hy3 hy4
      replace h := h y3 y4 σ5 hI hy3 hy4
      refine v_iload cx 4 d_U_bridgesOver_20 rfl ?_
      refine v_aload_n cx 0 d_U_bridgesOver_22 rfl rfl ?_
      refine gf_U_9 cx d_U_bridgesOver_23 ?_
      refine v_iload_n cx 1 d_U_bridgesOver_26 rfl rfl ?_
      refine v_callVi0 (st := [.int (zI y4)]) cx (s_L_roadSize hwhich h) yk_L_roadSize lk_U_27 zl_3 rfl rfl rfl (Nat.le_of_ble_eq_true rfl) ⟨Nat.le_of_ble_eq_true rfl, Nat.le_of_ble_eq_true rfl⟩ ⟨rfl, rfl⟩ ⟨(Nat.le_of_ble_eq_true rfl), (Nat.le_of_ble_eq_true rfl)⟩ d_U_bridgesOver_27 (fun r7 σ6 hr7 h => ?_)
      refine v_icmp_ge cx 85 d_U_bridgesOver_30 (by decide) hy4 hr7 (fun c8 => ?_) (fun c8 => ?_)
      · replace h := h.1 c8
        refine v_iload_n cx 3 d_U_bridgesOver_85 rfl rfl ?_
        exact rt _ _ _ _ _ _ (Nat.le_of_ble_eq_true rfl) (Nat.le_of_ble_eq_true rfl) d_U_bridgesOver_86 hy3 h
      · replace h := h.2 c8
        refine v_aload_n cx 0 d_U_bridgesOver_33 rfl rfl ?_
        refine gf_U_9 cx d_U_bridgesOver_34 ?_
        refine v_iload_n cx 1 d_U_bridgesOver_37 rfl rfl ?_
        refine v_iload cx 4 d_U_bridgesOver_38 rfl ?_
        refine v_callVi0 (st := []) cx (s_L_roadPlace hwhich hy4 h) yk_L_roadPlace lk_U_81 zl_3 rfl rfl rfl (Nat.le_of_ble_eq_true rfl) ⟨Nat.le_of_ble_eq_true rfl, Nat.le_of_ble_eq_true rfl⟩ ⟨rfl, rfl⟩ ⟨(Nat.le_of_ble_eq_true rfl), (Nat.le_of_ble_eq_true rfl)⟩ d_U_bridgesOver_40 (fun r10 σ9 hr10 h => ?_)
        refine v_istore (lv' := [(0, .ref (ad 38)), (1, .int (zI which)), (2, .int (zI n_)), (3, .int (zI y3)), (4, .int (zI y4)), (5, .int (zI r10))]) cx d_U_bridgesOver_43 (by decide) rfl rfl ?_
        refine v_aload_n cx 0 d_U_bridgesOver_45 rfl rfl ?_
        refine gf_U_23 cx d_U_bridgesOver_46 ?_
        refine v_iload cx 5 d_U_bridgesOver_49 rfl ?_
        obtain ⟨hb11, h⟩ := h
        refine v_iald cx zl_39 (by decide) hb11.1 hb11.2 d_U_bridgesOver_51 (fun hl12 => ?_)
        refine v_if_ne cx 71 d_U_bridgesOver_52 (by decide) hl12 (fun c13 => ?_) (fun c13 => ?_)
        · replace h := h.1 c13
          refine v_aload_n cx 0 d_U_bridgesOver_71 rfl rfl ?_
          refine gf_U_23 cx d_U_bridgesOver_72 ?_
          refine v_iload cx 5 d_U_bridgesOver_75 rfl ?_
          refine v_iconst cx d_U_bridgesOver_77 ?_
          refine v_iast cx zl_39 (by decide) hb11.1 hb11.2 ⟨by decide, by decide⟩ d_U_bridgesOver_78 ?_
          refine v_ns (fun σ14 eσ14 => ?_)
          replace h := h σ14 eσ14
          refine v_iinc (lv' := [(0, .ref (ad 38)), (1, .int (zI which)), (2, .int (zI n_)), (3, .int (zI y3)), (4, .int (zI (y4 + 1))), (5, .int (zI r10))]) cx 4 d_U_bridgesOver_79 rfl (by decide) rfl rfl ?_
          refine v_goto cx 20 d_U_bridgesOver_82 (by decide) ?_
          refine v_sb (lv' := [(0, .ref (ad 38)), (1, .int (zI which)), (2, .int (zI n_)), (3, .int (zI y3)), (4, .int (zI (y4 + 1)))]) [0, 1, 2, 3, 4] rfl ?_
          obtain ⟨hI2, hz16, hm2⟩ := h
          exact ih20 _ _ _ (Nat.lt_of_lt_of_le hm2 (Nat.le_of_lt_succ hmm20)) hI2 hy3 hz16
        · replace h := h.2 c13
          refine v_aload_n cx 0 d_U_bridgesOver_55 rfl rfl ?_
          refine gf_U_19 cx d_U_bridgesOver_56 ?_
          refine v_iload cx 5 d_U_bridgesOver_59 rfl ?_
          refine v_callVi0 (st := []) cx (s_S_catchOf hr10 h) yk_S_catchOf lk_U_139 zl_11 rfl rfl rfl (Nat.le_of_ble_eq_true rfl) ⟨Nat.le_of_ble_eq_true rfl, Nat.le_of_ble_eq_true rfl⟩ ⟨rfl, rfl⟩ ⟨(Nat.le_of_ble_eq_true rfl), (Nat.le_of_ble_eq_true rfl)⟩ d_U_bridgesOver_61 (fun r18 σ17 hr18 h => ?_)
          refine v_iload_n cx 2 d_U_bridgesOver_64 rfl rfl ?_
          refine v_icmp_lt cx 71 d_U_bridgesOver_65 (by decide) hr18 hn_ (fun c19 => ?_) (fun c19 => ?_)
          · replace h := h.1 c19
            refine v_aload_n cx 0 d_U_bridgesOver_71 rfl rfl ?_
            refine gf_U_23 cx d_U_bridgesOver_72 ?_
            refine v_iload cx 5 d_U_bridgesOver_75 rfl ?_
            refine v_iconst cx d_U_bridgesOver_77 ?_
            refine v_iast cx zl_39 (by decide) hb11.1 hb11.2 ⟨by decide, by decide⟩ d_U_bridgesOver_78 ?_
            refine v_ns (fun σ20 eσ20 => ?_)
            replace h := h σ20 eσ20
            refine v_iinc (lv' := [(0, .ref (ad 38)), (1, .int (zI which)), (2, .int (zI n_)), (3, .int (zI y3)), (4, .int (zI (y4 + 1))), (5, .int (zI r10))]) cx 4 d_U_bridgesOver_79 rfl (by decide) rfl rfl ?_
            refine v_goto cx 20 d_U_bridgesOver_82 (by decide) ?_
            refine v_sb (lv' := [(0, .ref (ad 38)), (1, .int (zI which)), (2, .int (zI n_)), (3, .int (zI y3)), (4, .int (zI (y4 + 1)))]) [0, 1, 2, 3, 4] rfl ?_
            obtain ⟨hI2, hz22, hm2⟩ := h
            exact ih20 _ _ _ (Nat.lt_of_lt_of_le hm2 (Nat.le_of_lt_succ hmm20)) hI2 hy3 hz22
          · replace h := h.2 c19
            refine v_iinc (lv' := [(0, .ref (ad 38)), (1, .int (zI which)), (2, .int (zI n_)), (3, .int (zI (y3 + 1))), (4, .int (zI y4)), (5, .int (zI r10))]) cx 3 d_U_bridgesOver_68 rfl (by decide) rfl rfl ?_
            refine v_aload_n cx 0 d_U_bridgesOver_71 rfl rfl ?_
            refine gf_U_23 cx d_U_bridgesOver_72 ?_
            refine v_iload cx 5 d_U_bridgesOver_75 rfl ?_
            refine v_iconst cx d_U_bridgesOver_77 ?_
            refine v_iast cx zl_39 (by decide) hb11.1 hb11.2 ⟨by decide, by decide⟩ d_U_bridgesOver_78 ?_
            refine v_ns (fun σ24 eσ24 => ?_)
            replace h := h σ24 eσ24
            refine v_iinc (lv' := [(0, .ref (ad 38)), (1, .int (zI which)), (2, .int (zI n_)), (3, .int (zI (y3 + 1))), (4, .int (zI (y4 + 1))), (5, .int (zI r10))]) cx 4 d_U_bridgesOver_79 rfl (by decide) rfl rfl ?_
            refine v_goto cx 20 d_U_bridgesOver_82 (by decide) ?_
            refine v_sb (lv' := [(0, .ref (ad 38)), (1, .int (zI which)), (2, .int (zI n_)), (3, .int (zI (y3 + 1))), (4, .int (zI (y4 + 1)))]) [0, 1, 2, 3, 4] rfl ?_
            obtain ⟨hI2, hz26, hz27, hm2⟩ := h
            exact ih20 _ _ _ (Nat.lt_of_lt_of_le hm2 (Nat.le_of_lt_succ hmm20)) hI2 hz26 hz27
  exact L20 _ _ _ _ (Nat.lt_succ_self _) h0 ⟨by decide, by decide⟩ ⟨by decide, by decide⟩
def q_U_partsWithin (which : Int) (most : Int) (K : Int → zS → Prop) (σ : zS) : Prop :=
  ∃ (I8 : Int → Int → Int → zS → Prop) (μ8 : Int → Int → Int → zS → Nat), (I8 1 0 0 σ) ∧ ∀ (y1 y2 y3 : Int) (σ4 : zS), I8 y1 y2 y3 σ4 → zR y1 → zR y2 → zR y3 → 
  q_U_steps which (fun r6 σ5 =>
    (r6 ≤ y3 →
      K y1 σ5) ∧ (y3 < r6 →
      q_L_roadHeading which y3 (fun r9 σ8 =>
        q_R_longOf r9 (fun r11 σ10 =>
          (r11 ≤ most →
            zR (y2 + r11) ∧ (((y2 + r11) ≤ most →
                ∀ x15 : Int, x15 = y2 + r11 → I8 y1 x15 (y3 + 1) σ10 ∧ zR (y3 + 1) ∧ μ8 y1 x15 (y3 + 1) σ10 < μ8 y1 y2 y3 σ4) ∧ (most < (y2 + r11) →
                ∀ x19 : Int, x19 = 0 + r11 → I8 (y1 + 1) x19 (y3 + 1) σ10 ∧ zR (y1 + 1) ∧ zR x19 ∧ zR (y3 + 1) ∧ μ8 (y1 + 1) x19 (y3 + 1) σ10 < μ8 y1 y2 y3 σ4))) ∧ (most < r11 →
            K 40 σ10)) σ8) σ5)) σ4
abbrev rm_U_partsWithin : Room := { frames := 2, cells := 0, slots := 0, locals := 45 }
set_option maxRecDepth 20000 in
set_option maxHeartbeats 4000000 in
theorem s_U_partsWithin {Ω : zO} {ad : Nat → Nat} {which : Int} {most : Int} {K : Int → zS → Prop} {σ : zS} (hwhich : zR which) (hmost : zR most) (h : q_U_partsWithin which most K σ) : zMi Ω y_U_partsWithin (.code y_U_partsWithin c_U_partsWithin 7 (some .int)) rm_U_partsWithin zLy ad [.ref (ad 38), .int (zI which), .int (zI most)] σ K := by
  refine z_ofi (lv := [(0, .ref (ad 38)), (1, .int (zI which)), (2, .int (zI most))]) (by decide) rfl (Nat.le_of_ble_eq_true rfl) ?_
  intro Γ Q cx rt
  unfold q_U_partsWithin at h
  refine v_iconst cx d_U_partsWithin_0 ?_
  refine v_istore_n (lv' := [(0, .ref (ad 38)), (1, .int (zI which)), (2, .int (zI most)), (3, .int (zI 1))]) cx d_U_partsWithin_1 rfl (by decide) rfl rfl ?_
  refine v_iconst cx d_U_partsWithin_2 ?_
  refine v_istore (lv' := [(0, .ref (ad 38)), (1, .int (zI which)), (2, .int (zI most)), (3, .int (zI 1)), (4, .int (zI 0))]) cx d_U_partsWithin_3 (by decide) rfl rfl ?_
  refine v_iconst cx d_U_partsWithin_5 ?_
  refine v_istore (lv' := [(0, .ref (ad 38)), (1, .int (zI which)), (2, .int (zI most)), (3, .int (zI 1)), (4, .int (zI 0)), (5, .int (zI 0))]) cx d_U_partsWithin_6 (by decide) rfl rfl ?_
  obtain ⟨I8, μ8, h0, h⟩ := h
  have L8 : ∀ (N8 : Nat) (y1 y2 y3 : Int) (σ4 : zS), μ8 y1 y2 y3 σ4 < N8 → I8 y1 y2 y3 σ4 → zR y1 → zR y2 → zR y3 → zV Ω Γ rm_U_partsWithin 7 Q 0 0 zLy ad σ4 8 [(0, .ref (ad 38)), (1, .int (zI which)), (2, .int (zI most)), (3, .int (zI y1)), (4, .int (zI y2)), (5, .int (zI y3))] [] := by
    intro N8
    induction N8 with
    | zero => intro y1 y2 y3 σ4 hm; exact absurd hm (Nat.not_lt_zero _)
    | succ N8 ih8 =>
      intro y1 y2 y3 σ4 hmm8 hI hy1 hy2 hy3
      replace h := h y1 y2 y3 σ4 hI hy1 hy2 hy3
      refine v_iload cx 5 d_U_partsWithin_8 rfl ?_
      refine v_aload_n cx 0 d_U_partsWithin_10 rfl rfl ?_
      refine v_iload_n cx 1 d_U_partsWithin_11 rfl rfl ?_
      refine v_callVi0 (st := [.int (zI y3)]) cx (s_U_steps hwhich h) yk_U_steps lk_U_72 zl_38 rfl rfl rfl (Nat.le_of_ble_eq_true rfl) ⟨Nat.le_of_ble_eq_true rfl, Nat.le_of_ble_eq_true rfl⟩ ⟨rfl, rfl⟩ ⟨(Nat.le_of_ble_eq_true rfl), (Nat.le_of_ble_eq_true rfl)⟩ d_U_partsWithin_12 (fun r6 σ5 hr6 h => ?_)
      refine v_icmp_ge cx 70 d_U_partsWithin_15 (by decide) hy3 hr6 (fun c7 => ?_) (fun c7 => ?_)
      · replace h := h.1 c7
        refine v_iload_n cx 3 d_U_partsWithin_70 rfl rfl ?_
        exact rt _ _ _ _ _ _ (Nat.le_of_ble_eq_true rfl) (Nat.le_of_ble_eq_true rfl) d_U_partsWithin_71 hy1 h
      · replace h := h.2 c7
        refine v_aload_n cx 0 d_U_partsWithin_18 rfl rfl ?_
        refine gf_U_9 cx d_U_partsWithin_19 ?_
        refine v_iload_n cx 1 d_U_partsWithin_22 rfl rfl ?_
        refine v_iload cx 5 d_U_partsWithin_23 rfl ?_
        refine v_callVi0 (st := []) cx (s_L_roadHeading hwhich hy3 h) yk_L_roadHeading lk_U_75 zl_3 rfl rfl rfl (Nat.le_of_ble_eq_true rfl) ⟨Nat.le_of_ble_eq_true rfl, Nat.le_of_ble_eq_true rfl⟩ ⟨rfl, rfl⟩ ⟨(Nat.le_of_ble_eq_true rfl), (Nat.le_of_ble_eq_true rfl)⟩ d_U_partsWithin_25 (fun r9 σ8 hr9 h => ?_)
        refine v_callNi0 (st := []) cx (s_R_longOf hr9 h) yk_R_longOf ln_U_78 rfl rfl (Nat.le_of_ble_eq_true rfl) ⟨Nat.le_of_ble_eq_true rfl, Nat.le_of_ble_eq_true rfl⟩ ⟨rfl, rfl⟩ ⟨(Nat.le_of_ble_eq_true rfl), (Nat.le_of_ble_eq_true rfl)⟩ d_U_partsWithin_28 (fun r11 σ10 hr11 h => ?_)
        refine v_istore (lv' := [(0, .ref (ad 38)), (1, .int (zI which)), (2, .int (zI most)), (3, .int (zI y1)), (4, .int (zI y2)), (5, .int (zI y3)), (6, .int (zI r11))]) cx d_U_partsWithin_31 (by decide) rfl rfl ?_
        refine v_iload cx 6 d_U_partsWithin_33 rfl ?_
        refine v_iload_n cx 2 d_U_partsWithin_35 rfl rfl ?_
        refine v_icmp_le cx 42 d_U_partsWithin_36 (by decide) hr11 hmost (fun c12 => ?_) (fun c12 => ?_)
        · replace h := h.1 c12
          refine v_iload cx 4 d_U_partsWithin_42 rfl ?_
          refine v_iload cx 6 d_U_partsWithin_44 rfl ?_
          refine v_iadd cx d_U_partsWithin_46 ?_
          refine v_iload_n cx 2 d_U_partsWithin_47 rfl rfl ?_
          obtain ⟨hr13, h⟩ := h
          refine v_icmp_le cx 57 d_U_partsWithin_48 (by decide) hr13 hmost (fun c14 => ?_) (fun c14 => ?_)
          · replace h := h.1 c14
            refine v_iload cx 4 d_U_partsWithin_57 rfl ?_
            refine v_iload cx 6 d_U_partsWithin_59 rfl ?_
            refine v_iadd cx d_U_partsWithin_61 ?_
            refine v_nm (fun x15 ex15 => ?_)
            replace h := h x15 ex15
            have hx15 : zR x15 := by rw [ex15]; exact hr13
            refine v_istore (lv' := [(0, .ref (ad 38)), (1, .int (zI which)), (2, .int (zI most)), (3, .int (zI y1)), (4, .int (zI x15)), (5, .int (zI y3)), (6, .int (zI r11))]) cx d_U_partsWithin_62 (by decide) rfl rfl ?_
            refine v_iinc (lv' := [(0, .ref (ad 38)), (1, .int (zI which)), (2, .int (zI most)), (3, .int (zI y1)), (4, .int (zI x15)), (5, .int (zI (y3 + 1))), (6, .int (zI r11))]) cx 5 d_U_partsWithin_64 rfl (by decide) rfl rfl ?_
            refine v_goto cx 8 d_U_partsWithin_67 (by decide) ?_
            refine v_sb (lv' := [(0, .ref (ad 38)), (1, .int (zI which)), (2, .int (zI most)), (3, .int (zI y1)), (4, .int (zI x15)), (5, .int (zI (y3 + 1)))]) [0, 1, 2, 3, 4, 5] rfl ?_
            obtain ⟨hI2, hz17, hm2⟩ := h
            exact ih8 _ _ _ _ (Nat.lt_of_lt_of_le hm2 (Nat.le_of_lt_succ hmm8)) hI2 hy1 hx15 hz17
          · replace h := h.2 c14
            refine v_iinc (lv' := [(0, .ref (ad 38)), (1, .int (zI which)), (2, .int (zI most)), (3, .int (zI (y1 + 1))), (4, .int (zI y2)), (5, .int (zI y3)), (6, .int (zI r11))]) cx 3 d_U_partsWithin_51 rfl (by decide) rfl rfl ?_
            refine v_iconst cx d_U_partsWithin_54 ?_
            refine v_istore (lv' := [(0, .ref (ad 38)), (1, .int (zI which)), (2, .int (zI most)), (3, .int (zI (y1 + 1))), (4, .int (zI 0)), (5, .int (zI y3)), (6, .int (zI r11))]) cx d_U_partsWithin_55 (by decide) rfl rfl ?_
            refine v_iload cx 4 d_U_partsWithin_57 rfl ?_
            refine v_iload cx 6 d_U_partsWithin_59 rfl ?_
            refine v_iadd cx d_U_partsWithin_61 ?_
            refine v_nm (fun x19 ex19 => ?_)
            replace h := h x19 ex19
            refine v_istore (lv' := [(0, .ref (ad 38)), (1, .int (zI which)), (2, .int (zI most)), (3, .int (zI (y1 + 1))), (4, .int (zI x19)), (5, .int (zI y3)), (6, .int (zI r11))]) cx d_U_partsWithin_62 (by decide) rfl rfl ?_
            refine v_iinc (lv' := [(0, .ref (ad 38)), (1, .int (zI which)), (2, .int (zI most)), (3, .int (zI (y1 + 1))), (4, .int (zI x19)), (5, .int (zI (y3 + 1))), (6, .int (zI r11))]) cx 5 d_U_partsWithin_64 rfl (by decide) rfl rfl ?_
            refine v_goto cx 8 d_U_partsWithin_67 (by decide) ?_
            refine v_sb (lv' := [(0, .ref (ad 38)), (1, .int (zI which)), (2, .int (zI most)), (3, .int (zI (y1 + 1))), (4, .int (zI x19)), (5, .int (zI (y3 + 1)))]) [0, 1, 2, 3, 4, 5] rfl ?_
            obtain ⟨hI2, hz21, hz22, hz23, hm2⟩ := h
            exact ih8 _ _ _ _ (Nat.lt_of_lt_of_le hm2 (Nat.le_of_lt_succ hmm8)) hI2 hz21 hz22 hz23
        · replace h := h.2 c12
          refine v_bipush cx (by decide) d_U_partsWithin_39 ?_
          exact rt _ _ _ _ _ _ (Nat.le_of_ble_eq_true rfl) (Nat.le_of_ble_eq_true rfl) d_U_partsWithin_41 ⟨by decide, by decide⟩ h
  exact L8 _ _ _ _ _ (Nat.lt_succ_self _) h0 ⟨by decide, by decide⟩ ⟨by decide, by decide⟩ ⟨by decide, by decide⟩
def q_U_leastStage (which : Int) (parts : Int) (K : Int → zS → Prop) (σ : zS) : Prop :=
  q_U_steps which (fun r2 σ1 =>
    (parts ≤ r2 →
      q_R_longOf 0 (fun r5 σ4 =>
        q_U_longTogether which (fun r7 σ6 =>
          ∃ (I23 : Int → Int → zS → Prop) (μ23 : Int → Int → zS → Nat), (I23 r5 r7 σ6) ∧ ∀ (y8 y9 : Int) (σ10 : zS), I23 y8 y9 σ10 → zR y8 → zR y9 → 
          (y9 ≤ y8 →
            K y9 σ10) ∧ (y8 < y9 →
            zR (y8 + y9) ∧ (∀ x13 : Int, x13 = Int.tdiv (y8 + y9) 2 → zR x13 ∧ (q_U_partsWithin which x13 (fun r16 σ15 =>
                  (parts < r16 →
                    ∀ x18 : Int, x18 = x13 + 1 → I23 x18 y9 σ15 ∧ zR x18 ∧ μ23 x18 y9 σ15 < μ23 y8 y9 σ10) ∧ (r16 ≤ parts →
                    I23 y8 x13 σ15 ∧ μ23 y8 x13 σ15 < μ23 y8 y9 σ10)) σ10)))) σ4) σ1) ∧ (r2 < parts →
      K (-1) σ1)) σ
abbrev rm_U_leastStage : Room := { frames := 3, cells := 0, slots := 0, locals := 71 }
set_option maxRecDepth 20000 in
set_option maxHeartbeats 4000000 in
theorem s_U_leastStage {Ω : zO} {ad : Nat → Nat} {which : Int} {parts : Int} {K : Int → zS → Prop} {σ : zS} (hwhich : zR which) (hparts : zR parts) (h : q_U_leastStage which parts K σ) : zMi Ω y_U_leastStage (.code y_U_leastStage c_U_leastStage 6 (some .int)) rm_U_leastStage zLy ad [.ref (ad 38), .int (zI which), .int (zI parts)] σ K := by
  refine z_ofi (lv := [(0, .ref (ad 38)), (1, .int (zI which)), (2, .int (zI parts))]) (by decide) rfl (Nat.le_of_ble_eq_true rfl) ?_
  intro Γ Q cx rt
  unfold q_U_leastStage at h
  refine v_aload_n cx 0 d_U_leastStage_0 rfl rfl ?_
  refine v_iload_n cx 1 d_U_leastStage_1 rfl rfl ?_
  refine v_callVi0 (st := []) cx (s_U_steps hwhich h) yk_U_steps lk_U_72 zl_38 rfl rfl rfl (Nat.le_of_ble_eq_true rfl) ⟨Nat.le_of_ble_eq_true rfl, Nat.le_of_ble_eq_true rfl⟩ ⟨rfl, rfl⟩ ⟨(Nat.le_of_ble_eq_true rfl), (Nat.le_of_ble_eq_true rfl)⟩ d_U_leastStage_2 (fun r2 σ1 hr2 h => ?_)
  refine v_iload_n cx 2 d_U_leastStage_5 rfl rfl ?_
  refine v_icmp_ge cx 11 d_U_leastStage_6 (by decide) hr2 hparts (fun c3 => ?_) (fun c3 => ?_)
  · replace h := h.1 c3
    refine v_iconst cx d_U_leastStage_11 ?_
    refine v_callNi0 (st := []) cx (s_R_longOf ⟨by decide, by decide⟩ h) yk_R_longOf ln_U_78 rfl rfl (Nat.le_of_ble_eq_true rfl) ⟨Nat.le_of_ble_eq_true rfl, Nat.le_of_ble_eq_true rfl⟩ ⟨rfl, rfl⟩ ⟨(Nat.le_of_ble_eq_true rfl), (Nat.le_of_ble_eq_true rfl)⟩ d_U_leastStage_12 (fun r5 σ4 hr5 h => ?_)
    refine v_istore_n (lv' := [(0, .ref (ad 38)), (1, .int (zI which)), (2, .int (zI parts)), (3, .int (zI r5))]) cx d_U_leastStage_15 rfl (by decide) rfl rfl ?_
    refine v_aload_n cx 0 d_U_leastStage_16 rfl rfl ?_
    refine v_iload_n cx 1 d_U_leastStage_17 rfl rfl ?_
    refine v_callVi0 (st := []) cx (s_U_longTogether hwhich h) yk_U_longTogether lk_U_33 zl_38 rfl rfl rfl (Nat.le_of_ble_eq_true rfl) ⟨Nat.le_of_ble_eq_true rfl, Nat.le_of_ble_eq_true rfl⟩ ⟨rfl, rfl⟩ ⟨(Nat.le_of_ble_eq_true rfl), (Nat.le_of_ble_eq_true rfl)⟩ d_U_leastStage_18 (fun r7 σ6 hr7 h => ?_)
    refine v_istore (lv' := [(0, .ref (ad 38)), (1, .int (zI which)), (2, .int (zI parts)), (3, .int (zI r5)), (4, .int (zI r7))]) cx d_U_leastStage_21 (by decide) rfl rfl ?_
    obtain ⟨I23, μ23, h0, h⟩ := h
    have L23 : ∀ (N23 : Nat) (y8 y9 : Int) (σ10 : zS), μ23 y8 y9 σ10 < N23 → I23 y8 y9 σ10 → zR y8 → zR y9 → zV Ω Γ rm_U_leastStage 6 Q 0 0 zLy ad σ10 23 [(0, .ref (ad 38)), (1, .int (zI which)), (2, .int (zI parts)), (3, .int (zI y8)), (4, .int (zI y9))] [] := by
      intro N23
      induction N23 with
      | zero => intro y8 y9 σ10 hm; exact absurd hm (Nat.not_lt_zero _)
      | succ N23 ih23 =>
        intro y8 y9 σ10 hmm23 hI hy8 hy9
        replace h := h y8 y9 σ10 hI hy8 hy9
        refine v_iload_n cx 3 d_U_leastStage_23 rfl rfl ?_
        refine v_iload cx 4 d_U_leastStage_24 rfl ?_
        refine v_icmp_ge cx 63 d_U_leastStage_26 (by decide) hy8 hy9 (fun c11 => ?_) (fun c11 => ?_)
        · replace h := h.1 c11
          refine v_iload cx 4 d_U_leastStage_63 rfl ?_
          exact rt _ _ _ _ _ _ (Nat.le_of_ble_eq_true rfl) (Nat.le_of_ble_eq_true rfl) d_U_leastStage_65 hy9 h
        · replace h := h.2 c11
          refine v_iload_n cx 3 d_U_leastStage_29 rfl rfl ?_
          refine v_iload cx 4 d_U_leastStage_30 rfl ?_
          refine v_iadd cx d_U_leastStage_32 ?_
          refine v_iconst cx d_U_leastStage_33 ?_
          obtain ⟨hr12, h⟩ := h
          refine v_idiv cx d_U_leastStage_34 hr12 ⟨by decide, by decide⟩ (by decide) (Or.inr (by decide)) ?_
          refine v_nm (fun x13 ex13 => ?_)
          replace h := h x13 ex13
          refine v_istore (lv' := [(0, .ref (ad 38)), (1, .int (zI which)), (2, .int (zI parts)), (3, .int (zI y8)), (4, .int (zI y9)), (5, .int (zI x13))]) cx d_U_leastStage_35 (by decide) rfl rfl ?_
          refine v_aload_n cx 0 d_U_leastStage_37 rfl rfl ?_
          refine v_iload_n cx 1 d_U_leastStage_38 rfl rfl ?_
          refine v_iload cx 5 d_U_leastStage_39 rfl ?_
          obtain ⟨hr14, h⟩ := h
          refine v_callVi0 (st := []) cx (s_U_partsWithin hwhich hr14 h) yk_U_partsWithin lk_U_142 zl_38 rfl rfl rfl (Nat.le_of_ble_eq_true rfl) ⟨Nat.le_of_ble_eq_true rfl, Nat.le_of_ble_eq_true rfl⟩ ⟨rfl, rfl⟩ ⟨(Nat.le_of_ble_eq_true rfl), (Nat.le_of_ble_eq_true rfl)⟩ d_U_leastStage_41 (fun r16 σ15 hr16 h => ?_)
          refine v_iload_n cx 2 d_U_leastStage_44 rfl rfl ?_
          refine v_icmp_gt cx 55 d_U_leastStage_45 (by decide) hr16 hparts (fun c17 => ?_) (fun c17 => ?_)
          · replace h := h.1 c17
            refine v_iload cx 5 d_U_leastStage_55 rfl ?_
            refine v_iconst cx d_U_leastStage_57 ?_
            refine v_iadd cx d_U_leastStage_58 ?_
            refine v_nm (fun x18 ex18 => ?_)
            replace h := h x18 ex18
            refine v_istore_n (lv' := [(0, .ref (ad 38)), (1, .int (zI which)), (2, .int (zI parts)), (3, .int (zI x18)), (4, .int (zI y9)), (5, .int (zI x13))]) cx d_U_leastStage_59 rfl (by decide) rfl rfl ?_
            refine v_goto cx 23 d_U_leastStage_60 (by decide) ?_
            refine v_sb (lv' := [(0, .ref (ad 38)), (1, .int (zI which)), (2, .int (zI parts)), (3, .int (zI x18)), (4, .int (zI y9))]) [0, 1, 2, 3, 4] rfl ?_
            obtain ⟨hI2, hz19, hm2⟩ := h
            exact ih23 _ _ _ (Nat.lt_of_lt_of_le hm2 (Nat.le_of_lt_succ hmm23)) hI2 hz19 hy9
          · replace h := h.2 c17
            refine v_iload cx 5 d_U_leastStage_48 rfl ?_
            refine v_istore (lv' := [(0, .ref (ad 38)), (1, .int (zI which)), (2, .int (zI parts)), (3, .int (zI y8)), (4, .int (zI x13)), (5, .int (zI x13))]) cx d_U_leastStage_50 (by decide) rfl rfl ?_
            refine v_goto cx 60 d_U_leastStage_52 (by decide) ?_
            refine v_goto cx 23 d_U_leastStage_60 (by decide) ?_
            refine v_sb (lv' := [(0, .ref (ad 38)), (1, .int (zI which)), (2, .int (zI parts)), (3, .int (zI y8)), (4, .int (zI x13))]) [0, 1, 2, 3, 4] rfl ?_
            obtain ⟨hI2, hm2⟩ := h
            exact ih23 _ _ _ (Nat.lt_of_lt_of_le hm2 (Nat.le_of_lt_succ hmm23)) hI2 hy8 hr14
    exact L23 _ _ _ _ (Nat.lt_succ_self _) h0 hr5 hr7
  · replace h := h.2 c3
    refine v_iconst cx d_U_leastStage_9 ?_
    exact rt _ _ _ _ _ _ (Nat.le_of_ble_eq_true rfl) (Nat.le_of_ble_eq_true rfl) d_U_leastStage_10 ⟨by decide, by decide⟩ h
def q_U_shared (which : Int) (other : Int) (K : Int → zS → Prop) (σ : zS) : Prop :=
  q_J_fill2 39 81 0 (fun σ1 =>
    ∃ (I10 : Int → zS → Prop) (μ10 : Int → zS → Nat), (I10 0 σ1) ∧ ∀ (y2 : Int) (σ3 : zS), I10 y2 σ3 → zR y2 → 
    q_U_steps other (fun r5 σ4 =>
      (r5 ≤ y2 →
        ∃ (I88 : Int → Int → zS → Prop) (μ88 : Int → Int → zS → Nat), (I88 0 0 σ4) ∧ ∀ (y7 y8 : Int) (σ9 : zS), I88 y7 y8 σ9 → zR y7 → zR y8 → 
        q_U_steps which (fun r11 σ10 =>
          (r11 ≤ y8 →
            K y7 σ10) ∧ (y8 < r11 →
            q_L_roadHeading which y8 (fun r14 σ13 =>
              q_L_roadPlace which y8 (fun r16 σ15 =>
                (0 ≤ r16 ∧ r16 < 81) ∧ (((zAnd (σ15 39 r16) (zShl 1 r14)) = 0 →
                    I88 y7 (y8 + 1) σ15 ∧ zR (y8 + 1) ∧ μ88 y7 (y8 + 1) σ15 < μ88 y7 y8 σ9) ∧ ((zAnd (σ15 39 r16) (zShl 1 r14)) ≠ 0 →
                    q_L_roadPlace which y8 (fun r24 σ23 =>
                      (0 ≤ r24 ∧ r24 < 81) ∧ (∀ σ27 : zS, σ27 = zU σ23 39 r24 (zAnd (σ23 39 r24) (zXor (zShl 1 r14) (-1))) → zR (y8 + 1) ∧ (q_L_roadPlace which (y8 + 1) (fun r30 σ29 =>
                            (0 ≤ r30 ∧ r30 < 81) ∧ (q_R_opposite r14 (fun r34 σ33 =>
                                ∀ σ35 : zS, σ35 = zU σ33 39 r30 (zAnd (σ29 39 r30) (zXor (zShl 1 r34) (-1))) → I88 (y7 + 1) (y8 + 1) σ35 ∧ zR (y7 + 1) ∧ μ88 (y7 + 1) (y8 + 1) σ35 < μ88 y7 y8 σ9) σ29)) σ27))) σ15))) σ13) σ10)) σ9) ∧ (y2 < r5 →
        q_L_roadHeading other y2 (fun r39 σ38 =>
          q_L_roadPlace other y2 (fun r41 σ40 =>
            (0 ≤ r41 ∧ r41 < 81) ∧ (∀ σ44 : zS, σ44 = zU σ40 39 r41 (zOr (σ40 39 r41) (zShl 1 r39)) → zR (y2 + 1) ∧ (q_L_roadPlace other (y2 + 1) (fun r47 σ46 =>
                  (0 ≤ r47 ∧ r47 < 81) ∧ (q_R_opposite r39 (fun r51 σ50 =>
                      ∀ σ52 : zS, σ52 = zU σ50 39 r47 (zOr (σ46 39 r47) (zShl 1 r51)) → I10 (y2 + 1) σ52 ∧ μ10 (y2 + 1) σ52 < μ10 y2 σ3) σ46)) σ44))) σ38) σ4)) σ3) σ
abbrev rm_U_shared : Room := { frames := 2, cells := 0, slots := 0, locals := 45 }
set_option maxRecDepth 20000 in
set_option maxHeartbeats 4000000 in
theorem s_U_shared {Ω : zO} {ad : Nat → Nat} {which : Int} {other : Int} {K : Int → zS → Prop} {σ : zS} (hwhich : zR which) (hother : zR other) (h : q_U_shared which other K σ) : zMi Ω y_U_shared (.code y_U_shared c_U_shared 6 (some .int)) rm_U_shared zLy ad [.ref (ad 38), .int (zI which), .int (zI other)] σ K := by
  refine z_ofi (lv := [(0, .ref (ad 38)), (1, .int (zI which)), (2, .int (zI other))]) (by decide) rfl (Nat.le_of_ble_eq_true rfl) ?_
  intro Γ Q cx rt
  unfold q_U_shared at h
  refine v_aload_n cx 0 d_U_shared_0 rfl rfl ?_
  refine gf_U_23 cx d_U_shared_1 ?_
  refine v_iconst cx d_U_shared_4 ?_
  refine v_callSv0 (st := []) cx (s_J_fill2 (o := 39) zl_39 (by decide) ⟨by decide, by decide⟩ h) yk_J_fill2 lk_U_133 rfl rfl (Nat.le_of_ble_eq_true rfl) ⟨Nat.le_of_ble_eq_true rfl, Nat.le_of_ble_eq_true rfl⟩ ⟨rfl, rfl⟩ ⟨Nat.le_of_ble_eq_true rfl, Nat.le_of_ble_eq_true rfl⟩ d_U_shared_5 (fun σ1 h => ?_)
  refine v_iconst cx d_U_shared_8 ?_
  refine v_istore_n (lv' := [(0, .ref (ad 38)), (1, .int (zI which)), (2, .int (zI other)), (3, .int (zI 0))]) cx d_U_shared_9 rfl (by decide) rfl rfl ?_
  obtain ⟨I10, μ10, h0, h⟩ := h
  have L10 : ∀ (N10 : Nat) (y2 : Int) (σ3 : zS), μ10 y2 σ3 < N10 → I10 y2 σ3 → zR y2 → zV Ω Γ rm_U_shared 6 Q 0 0 zLy ad σ3 10 [(0, .ref (ad 38)), (1, .int (zI which)), (2, .int (zI other)), (3, .int (zI y2))] [] := by
    intro N10
    induction N10 with
    | zero => intro y2 σ3 hm; exact absurd hm (Nat.not_lt_zero _)
    | succ N10 ih10 =>
      intro y2 σ3 hmm10 hI hy2
      replace h := h y2 σ3 hI hy2
      refine v_iload_n cx 3 d_U_shared_10 rfl rfl ?_
      refine v_aload_n cx 0 d_U_shared_11 rfl rfl ?_
      refine v_iload_n cx 2 d_U_shared_12 rfl rfl ?_
      refine v_callVi0 (st := [.int (zI y2)]) cx (s_U_steps hother h) yk_U_steps lk_U_72 zl_38 rfl rfl rfl (Nat.le_of_ble_eq_true rfl) ⟨Nat.le_of_ble_eq_true rfl, Nat.le_of_ble_eq_true rfl⟩ ⟨rfl, rfl⟩ ⟨(Nat.le_of_ble_eq_true rfl), (Nat.le_of_ble_eq_true rfl)⟩ d_U_shared_13 (fun r5 σ4 hr5 h => ?_)
      refine v_icmp_ge cx 83 d_U_shared_16 (by decide) hy2 hr5 (fun c6 => ?_) (fun c6 => ?_)
      · replace h := h.1 c6
        refine v_iconst cx d_U_shared_83 ?_
        refine v_istore_n (lv' := [(0, .ref (ad 38)), (1, .int (zI which)), (2, .int (zI other)), (3, .int (zI 0))]) cx d_U_shared_84 rfl (by decide) rfl rfl ?_
        refine v_iconst cx d_U_shared_85 ?_
        refine v_istore (lv' := [(0, .ref (ad 38)), (1, .int (zI which)), (2, .int (zI other)), (3, .int (zI 0)), (4, .int (zI 0))]) cx d_U_shared_86 (by decide) rfl rfl ?_
        refine v_sb (lv' := [(0, .ref (ad 38)), (1, .int (zI which)), (3, .int (zI 0)), (4, .int (zI 0))]) [0, 1, 3, 4] rfl ?_
        obtain ⟨I88, μ88, h0, h⟩ := h
        have L88 : ∀ (N88 : Nat) (y7 y8 : Int) (σ9 : zS), μ88 y7 y8 σ9 < N88 → I88 y7 y8 σ9 → zR y7 → zR y8 → zV Ω Γ rm_U_shared 6 Q 0 0 zLy ad σ9 88 [(0, .ref (ad 38)), (1, .int (zI which)), (3, .int (zI y7)), (4, .int (zI y8))] [] := by
          intro N88
          induction N88 with
          | zero => intro y7 y8 σ9 hm; exact absurd hm (Nat.not_lt_zero _)
          | succ N88 ih88 =>
            intro y7 y8 σ9 hmm88 hI hy7 hy8
            replace h := h y7 y8 σ9 hI hy7 hy8
            refine v_iload cx 3 d_U_shared_88 rfl ?_
            refine v_aload_n cx 0 d_U_shared_90 rfl rfl ?_
            refine v_iload_n cx 1 d_U_shared_91 rfl rfl ?_
            refine v_callVi0 (st := [.int (zI y8)]) cx (s_U_steps hwhich h) yk_U_steps lk_U_72 zl_38 rfl rfl rfl (Nat.le_of_ble_eq_true rfl) ⟨Nat.le_of_ble_eq_true rfl, Nat.le_of_ble_eq_true rfl⟩ ⟨rfl, rfl⟩ ⟨(Nat.le_of_ble_eq_true rfl), (Nat.le_of_ble_eq_true rfl)⟩ d_U_shared_92 (fun r11 σ10 hr11 h => ?_)
            refine v_icmp_ge cx 195 d_U_shared_95 (by decide) hy8 hr11 (fun c12 => ?_) (fun c12 => ?_)
            · replace h := h.1 c12
              refine v_iload_n cx 2 d_U_shared_195 rfl rfl ?_
              exact rt _ _ _ _ _ _ (Nat.le_of_ble_eq_true rfl) (Nat.le_of_ble_eq_true rfl) d_U_shared_196 hy7 h
            · replace h := h.2 c12
              refine v_aload_n cx 0 d_U_shared_98 rfl rfl ?_
              refine gf_U_9 cx d_U_shared_99 ?_
              refine v_iload_n cx 1 d_U_shared_102 rfl rfl ?_
              refine v_iload cx 3 d_U_shared_103 rfl ?_
              refine v_callVi0 (st := []) cx (s_L_roadHeading hwhich hy8 h) yk_L_roadHeading lk_U_75 zl_3 rfl rfl rfl (Nat.le_of_ble_eq_true rfl) ⟨Nat.le_of_ble_eq_true rfl, Nat.le_of_ble_eq_true rfl⟩ ⟨rfl, rfl⟩ ⟨(Nat.le_of_ble_eq_true rfl), (Nat.le_of_ble_eq_true rfl)⟩ d_U_shared_105 (fun r14 σ13 hr14 h => ?_)
              refine v_istore (lv' := [(0, .ref (ad 38)), (1, .int (zI which)), (3, .int (zI y7)), (4, .int (zI y8)), (5, .int (zI r14))]) cx d_U_shared_108 (by decide) rfl rfl ?_
              refine v_aload_n cx 0 d_U_shared_110 rfl rfl ?_
              refine gf_U_23 cx d_U_shared_111 ?_
              refine v_aload_n cx 0 d_U_shared_114 rfl rfl ?_
              refine gf_U_9 cx d_U_shared_115 ?_
              refine v_iload_n cx 1 d_U_shared_118 rfl rfl ?_
              refine v_iload cx 3 d_U_shared_119 rfl ?_
              refine v_callVi0 (st := [.ref (ad 39)]) cx (s_L_roadPlace hwhich hy8 h) yk_L_roadPlace lk_U_81 zl_3 rfl rfl rfl (Nat.le_of_ble_eq_true rfl) ⟨Nat.le_of_ble_eq_true rfl, Nat.le_of_ble_eq_true rfl⟩ ⟨rfl, rfl⟩ ⟨(Nat.le_of_ble_eq_true rfl), (Nat.le_of_ble_eq_true rfl)⟩ d_U_shared_121 (fun r16 σ15 hr16 h => ?_)
              obtain ⟨hb17, h⟩ := h
              refine v_iald cx zl_39 (by decide) hb17.1 hb17.2 d_U_shared_124 (fun hl18 => ?_)
              refine v_iconst cx d_U_shared_125 ?_
              refine v_iload cx 4 d_U_shared_126 rfl ?_
              refine v_ishl cx d_U_shared_128 ?_
              refine v_iand cx d_U_shared_129 ?_
              refine v_if_eq cx 189 d_U_shared_130 (by decide) (zR_and _ _) (fun c19 => ?_) (fun c19 => ?_)
              · replace h := h.1 c19
                refine v_iinc (lv' := [(0, .ref (ad 38)), (1, .int (zI which)), (3, .int (zI y7)), (4, .int (zI (y8 + 1))), (5, .int (zI r14))]) cx 3 d_U_shared_189 rfl (by decide) rfl rfl ?_
                refine v_goto cx 88 d_U_shared_192 (by decide) ?_
                refine v_sb (lv' := [(0, .ref (ad 38)), (1, .int (zI which)), (3, .int (zI y7)), (4, .int (zI (y8 + 1)))]) [0, 1, 2, 3] rfl ?_
                obtain ⟨hI2, hz21, hm2⟩ := h
                exact ih88 _ _ _ (Nat.lt_of_lt_of_le hm2 (Nat.le_of_lt_succ hmm88)) hI2 hy7 hz21
              · replace h := h.2 c19
                refine v_iinc (lv' := [(0, .ref (ad 38)), (1, .int (zI which)), (3, .int (zI (y7 + 1))), (4, .int (zI y8)), (5, .int (zI r14))]) cx 2 d_U_shared_133 rfl (by decide) rfl rfl ?_
                refine v_aload_n cx 0 d_U_shared_136 rfl rfl ?_
                refine gf_U_23 cx d_U_shared_137 ?_
                refine v_aload_n cx 0 d_U_shared_140 rfl rfl ?_
                refine gf_U_9 cx d_U_shared_141 ?_
                refine v_iload_n cx 1 d_U_shared_144 rfl rfl ?_
                refine v_iload cx 3 d_U_shared_145 rfl ?_
                refine v_callVi0 (st := [.ref (ad 39)]) cx (s_L_roadPlace hwhich hy8 h) yk_L_roadPlace lk_U_81 zl_3 rfl rfl rfl (Nat.le_of_ble_eq_true rfl) ⟨Nat.le_of_ble_eq_true rfl, Nat.le_of_ble_eq_true rfl⟩ ⟨rfl, rfl⟩ ⟨(Nat.le_of_ble_eq_true rfl), (Nat.le_of_ble_eq_true rfl)⟩ d_U_shared_147 (fun r24 σ23 hr24 h => ?_)
                refine v_dup2 cx d_U_shared_150 rfl rfl ?_
                obtain ⟨hb25, h⟩ := h
                refine v_iald cx zl_39 (by decide) hb25.1 hb25.2 d_U_shared_151 (fun hl26 => ?_)
                refine v_iconst cx d_U_shared_152 ?_
                refine v_iload cx 4 d_U_shared_153 rfl ?_
                refine v_ishl cx d_U_shared_155 ?_
                refine v_iconst cx d_U_shared_156 ?_
                refine v_ixor cx d_U_shared_157 ?_
                refine v_iand cx d_U_shared_158 ?_
                refine v_iast cx zl_39 (by decide) hb25.1 hb25.2 (zR_and _ _) d_U_shared_159 ?_
                refine v_ns (fun σ27 eσ27 => ?_)
                replace h := h σ27 eσ27
                refine v_aload_n cx 0 d_U_shared_160 rfl rfl ?_
                refine gf_U_23 cx d_U_shared_161 ?_
                refine v_aload_n cx 0 d_U_shared_164 rfl rfl ?_
                refine gf_U_9 cx d_U_shared_165 ?_
                refine v_iload_n cx 1 d_U_shared_168 rfl rfl ?_
                refine v_iload cx 3 d_U_shared_169 rfl ?_
                refine v_iconst cx d_U_shared_171 ?_
                refine v_iadd cx d_U_shared_172 ?_
                obtain ⟨hr28, h⟩ := h
                refine v_callVi0 (st := [.ref (ad 39)]) cx (s_L_roadPlace hwhich hr28 h) yk_L_roadPlace lk_U_81 zl_3 rfl rfl rfl (Nat.le_of_ble_eq_true rfl) ⟨Nat.le_of_ble_eq_true rfl, Nat.le_of_ble_eq_true rfl⟩ ⟨rfl, rfl⟩ ⟨(Nat.le_of_ble_eq_true rfl), (Nat.le_of_ble_eq_true rfl)⟩ d_U_shared_173 (fun r30 σ29 hr30 h => ?_)
                refine v_dup2 cx d_U_shared_176 rfl rfl ?_
                obtain ⟨hb31, h⟩ := h
                refine v_iald cx zl_39 (by decide) hb31.1 hb31.2 d_U_shared_177 (fun hl32 => ?_)
                refine v_iconst cx d_U_shared_178 ?_
                refine v_iload cx 4 d_U_shared_179 rfl ?_
                refine v_callNi0 (st := [.int (zI 1), .int (zI (σ29 39 r30)), .int (zI r30), .ref (ad 39)]) cx (s_R_opposite hr14 h) yk_R_opposite ln_U_145 rfl rfl (Nat.le_of_ble_eq_true rfl) ⟨Nat.le_of_ble_eq_true rfl, Nat.le_of_ble_eq_true rfl⟩ ⟨rfl, rfl⟩ ⟨(Nat.le_of_ble_eq_true rfl), (Nat.le_of_ble_eq_true rfl)⟩ d_U_shared_181 (fun r34 σ33 hr34 h => ?_)
                refine v_ishl cx d_U_shared_184 ?_
                refine v_iconst cx d_U_shared_185 ?_
                refine v_ixor cx d_U_shared_186 ?_
                refine v_iand cx d_U_shared_187 ?_
                refine v_iast cx zl_39 (by decide) hb31.1 hb31.2 (zR_and _ _) d_U_shared_188 ?_
                refine v_ns (fun σ35 eσ35 => ?_)
                replace h := h σ35 eσ35
                refine v_iinc (lv' := [(0, .ref (ad 38)), (1, .int (zI which)), (3, .int (zI (y7 + 1))), (4, .int (zI (y8 + 1))), (5, .int (zI r14))]) cx 3 d_U_shared_189 rfl (by decide) rfl rfl ?_
                refine v_goto cx 88 d_U_shared_192 (by decide) ?_
                refine v_sb (lv' := [(0, .ref (ad 38)), (1, .int (zI which)), (3, .int (zI (y7 + 1))), (4, .int (zI (y8 + 1)))]) [0, 1, 2, 3] rfl ?_
                obtain ⟨hI2, hz37, hm2⟩ := h
                exact ih88 _ _ _ (Nat.lt_of_lt_of_le hm2 (Nat.le_of_lt_succ hmm88)) hI2 hz37 hr28
        exact L88 _ _ _ _ (Nat.lt_succ_self _) h0 ⟨by decide, by decide⟩ ⟨by decide, by decide⟩
      · replace h := h.2 c6
        refine v_aload_n cx 0 d_U_shared_19 rfl rfl ?_
        refine gf_U_9 cx d_U_shared_20 ?_
        refine v_iload_n cx 2 d_U_shared_23 rfl rfl ?_
        refine v_iload_n cx 3 d_U_shared_24 rfl rfl ?_
        refine v_callVi0 (st := []) cx (s_L_roadHeading hother hy2 h) yk_L_roadHeading lk_U_75 zl_3 rfl rfl rfl (Nat.le_of_ble_eq_true rfl) ⟨Nat.le_of_ble_eq_true rfl, Nat.le_of_ble_eq_true rfl⟩ ⟨rfl, rfl⟩ ⟨(Nat.le_of_ble_eq_true rfl), (Nat.le_of_ble_eq_true rfl)⟩ d_U_shared_25 (fun r39 σ38 hr39 h => ?_)
        refine v_istore (lv' := [(0, .ref (ad 38)), (1, .int (zI which)), (2, .int (zI other)), (3, .int (zI y2)), (4, .int (zI r39))]) cx d_U_shared_28 (by decide) rfl rfl ?_
        refine v_aload_n cx 0 d_U_shared_30 rfl rfl ?_
        refine gf_U_23 cx d_U_shared_31 ?_
        refine v_aload_n cx 0 d_U_shared_34 rfl rfl ?_
        refine gf_U_9 cx d_U_shared_35 ?_
        refine v_iload_n cx 2 d_U_shared_38 rfl rfl ?_
        refine v_iload_n cx 3 d_U_shared_39 rfl rfl ?_
        refine v_callVi0 (st := [.ref (ad 39)]) cx (s_L_roadPlace hother hy2 h) yk_L_roadPlace lk_U_81 zl_3 rfl rfl rfl (Nat.le_of_ble_eq_true rfl) ⟨Nat.le_of_ble_eq_true rfl, Nat.le_of_ble_eq_true rfl⟩ ⟨rfl, rfl⟩ ⟨(Nat.le_of_ble_eq_true rfl), (Nat.le_of_ble_eq_true rfl)⟩ d_U_shared_40 (fun r41 σ40 hr41 h => ?_)
        refine v_dup2 cx d_U_shared_43 rfl rfl ?_
        obtain ⟨hb42, h⟩ := h
        refine v_iald cx zl_39 (by decide) hb42.1 hb42.2 d_U_shared_44 (fun hl43 => ?_)
        refine v_iconst cx d_U_shared_45 ?_
        refine v_iload cx 4 d_U_shared_46 rfl ?_
        refine v_ishl cx d_U_shared_48 ?_
        refine v_ior cx d_U_shared_49 ?_
        refine v_iast cx zl_39 (by decide) hb42.1 hb42.2 (zR_or _ _) d_U_shared_50 ?_
        refine v_ns (fun σ44 eσ44 => ?_)
        replace h := h σ44 eσ44
        refine v_aload_n cx 0 d_U_shared_51 rfl rfl ?_
        refine gf_U_23 cx d_U_shared_52 ?_
        refine v_aload_n cx 0 d_U_shared_55 rfl rfl ?_
        refine gf_U_9 cx d_U_shared_56 ?_
        refine v_iload_n cx 2 d_U_shared_59 rfl rfl ?_
        refine v_iload_n cx 3 d_U_shared_60 rfl rfl ?_
        refine v_iconst cx d_U_shared_61 ?_
        refine v_iadd cx d_U_shared_62 ?_
        obtain ⟨hr45, h⟩ := h
        refine v_callVi0 (st := [.ref (ad 39)]) cx (s_L_roadPlace hother hr45 h) yk_L_roadPlace lk_U_81 zl_3 rfl rfl rfl (Nat.le_of_ble_eq_true rfl) ⟨Nat.le_of_ble_eq_true rfl, Nat.le_of_ble_eq_true rfl⟩ ⟨rfl, rfl⟩ ⟨(Nat.le_of_ble_eq_true rfl), (Nat.le_of_ble_eq_true rfl)⟩ d_U_shared_63 (fun r47 σ46 hr47 h => ?_)
        refine v_dup2 cx d_U_shared_66 rfl rfl ?_
        obtain ⟨hb48, h⟩ := h
        refine v_iald cx zl_39 (by decide) hb48.1 hb48.2 d_U_shared_67 (fun hl49 => ?_)
        refine v_iconst cx d_U_shared_68 ?_
        refine v_iload cx 4 d_U_shared_69 rfl ?_
        refine v_callNi0 (st := [.int (zI 1), .int (zI (σ46 39 r47)), .int (zI r47), .ref (ad 39)]) cx (s_R_opposite hr39 h) yk_R_opposite ln_U_145 rfl rfl (Nat.le_of_ble_eq_true rfl) ⟨Nat.le_of_ble_eq_true rfl, Nat.le_of_ble_eq_true rfl⟩ ⟨rfl, rfl⟩ ⟨(Nat.le_of_ble_eq_true rfl), (Nat.le_of_ble_eq_true rfl)⟩ d_U_shared_71 (fun r51 σ50 hr51 h => ?_)
        refine v_ishl cx d_U_shared_74 ?_
        refine v_ior cx d_U_shared_75 ?_
        refine v_iast cx zl_39 (by decide) hb48.1 hb48.2 (zR_or _ _) d_U_shared_76 ?_
        refine v_ns (fun σ52 eσ52 => ?_)
        replace h := h σ52 eσ52
        refine v_iinc (lv' := [(0, .ref (ad 38)), (1, .int (zI which)), (2, .int (zI other)), (3, .int (zI (y2 + 1))), (4, .int (zI r39))]) cx 3 d_U_shared_77 rfl (by decide) rfl rfl ?_
        refine v_goto cx 10 d_U_shared_80 (by decide) ?_
        refine v_sb (lv' := [(0, .ref (ad 38)), (1, .int (zI which)), (2, .int (zI other)), (3, .int (zI (y2 + 1)))]) [0, 1, 2, 3] rfl ?_
        obtain ⟨hI2, hm2⟩ := h
        exact ih10 _ _ (Nat.lt_of_lt_of_le hm2 (Nat.le_of_lt_succ hmm10)) hI2 hr45
  exact L10 _ _ _ (Nat.lt_succ_self _) h0 ⟨by decide, by decide⟩
