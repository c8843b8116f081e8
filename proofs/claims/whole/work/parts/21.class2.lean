def q_L_clearRoad (which : Int) (K : zS → Prop) (σ : zS) : Prop :=
  ∀ x1 : Int, x1 = 175 + (which * 81) → zR x1 ∧ (zR (x1 + 81) ∧ (q_J_fill4 4 499 x1 (x1 + 81) 0 (fun σ4 =>
        K σ4) σ))
abbrev rm_L_clearRoad : Room := { frames := 2, cells := 0, slots := 0, locals := 46 }
set_option maxRecDepth 20000 in
set_option maxHeartbeats 4000000 in
theorem s_L_clearRoad {Ω : zO} {ad : Nat → Nat} {which : Int} {K : zS → Prop} {σ : zS} (hwhich : zR which) (h : q_L_clearRoad which K σ) : zMv Ω y_L_clearRoad (.code y_L_clearRoad c_L_clearRoad 3 none) rm_L_clearRoad zLy ad [.ref (ad 3), .int (zI which)] σ K := by
  refine z_ofv (lv := [(0, .ref (ad 3)), (1, .int (zI which))]) (by decide) rfl (Nat.le_of_ble_eq_true rfl) ?_
  intro Γ Q cx rt
  unfold q_L_clearRoad at h
  refine v_sipush cx (by decide) d_L_clearRoad_0 ?_
  refine v_iload_n cx 1 d_L_clearRoad_3 rfl rfl ?_
  refine v_bipush cx (by decide) d_L_clearRoad_4 ?_
  refine v_imul cx d_L_clearRoad_6 ?_
  refine v_iadd cx d_L_clearRoad_7 ?_
  refine v_nm (fun x1 ex1 => ?_)
  replace h := h x1 ex1
  refine v_istore_n (lv' := [(0, .ref (ad 3)), (1, .int (zI which)), (2, .int (zI x1))]) cx d_L_clearRoad_8 rfl (by decide) rfl rfl ?_
  refine v_aload_n cx 0 d_L_clearRoad_9 rfl rfl ?_
  refine gf_L_11 cx d_L_clearRoad_10 ?_
  refine v_iload_n cx 2 d_L_clearRoad_13 rfl rfl ?_
  refine v_iload_n cx 2 d_L_clearRoad_14 rfl rfl ?_
  refine v_bipush cx (by decide) d_L_clearRoad_15 ?_
  refine v_iadd cx d_L_clearRoad_17 ?_
  refine v_iconst cx d_L_clearRoad_18 ?_
  obtain ⟨hr2, h⟩ := h
  obtain ⟨hr3, h⟩ := h
  refine v_callSv0 (st := []) cx (s_J_fill4 (o := 4) zl_4 (by decide) hr2 hr3 ⟨by decide, by decide⟩ h) yk_J_fill4 lk_L_60 rfl rfl (Nat.le_of_ble_eq_true rfl) ⟨Nat.le_of_ble_eq_true rfl, Nat.le_of_ble_eq_true rfl⟩ ⟨rfl, rfl⟩ ⟨Nat.le_of_ble_eq_true rfl, Nat.le_of_ble_eq_true rfl⟩ d_L_clearRoad_19 (fun σ4 h => ?_)
  exact rt _ _ _ _ _ (Nat.le_of_ble_eq_true rfl) (Nat.le_of_ble_eq_true rfl) d_L_clearRoad_22 h
def q_L_setRoad (which : Int) (size : Int) (K : zS → Prop) (σ : zS) : Prop :=
  q_L_clearRoad which (fun σ1 =>
    ∀ x2 : Int, x2 = 175 + (which * 81) → (0 ≤ x2 ∧ x2 < 499) ∧ (∀ σ4 : zS, σ4 = zU σ1 4 x2 size → 0 ≤ x2 + 1 ∧ (0 ≤ size ∧ (0 + size ≤ 649 ∧ ((x2 + 1) + size ≤ 499 ∧ (∀ σ9 : zS, σ9 = zW σ4 4 (zCpy (σ4 25) (σ4 4) 0 (x2 + 1) size) → K σ9)))))) σ
abbrev rm_L_setRoad : Room := { frames := 3, cells := 0, slots := 0, locals := 68 }
set_option maxRecDepth 20000 in
set_option maxHeartbeats 4000000 in
theorem s_L_setRoad {Ω : zO} {ad : Nat → Nat} {which : Int} {size : Int} {K : zS → Prop} {σ : zS} (hwhich : zR which) (hsize : zR size) (h : q_L_setRoad which size K σ) : zMv Ω y_L_setRoad (.code y_L_setRoad c_L_setRoad 5 none) rm_L_setRoad zLy ad [.ref (ad 3), .int (zI which), .ref (ad 25), .int (zI size)] σ K := by
  refine z_ofv (lv := [(0, .ref (ad 3)), (1, .int (zI which)), (2, .ref (ad 25)), (3, .int (zI size))]) (by decide) rfl (Nat.le_of_ble_eq_true rfl) ?_
  intro Γ Q cx rt
  unfold q_L_setRoad at h
  refine v_aload_n cx 0 d_L_setRoad_0 rfl rfl ?_
  refine v_iload_n cx 1 d_L_setRoad_1 rfl rfl ?_
  refine v_callVv0 (st := []) cx (s_L_clearRoad hwhich h) yk_L_clearRoad lk_L_63 zl_3 rfl rfl rfl (Nat.le_of_ble_eq_true rfl) ⟨Nat.le_of_ble_eq_true rfl, Nat.le_of_ble_eq_true rfl⟩ ⟨rfl, rfl⟩ ⟨(Nat.le_of_ble_eq_true rfl), (Nat.le_of_ble_eq_true rfl)⟩ d_L_setRoad_2 (fun σ1 h => ?_)
  refine v_sipush cx (by decide) d_L_setRoad_5 ?_
  refine v_iload_n cx 1 d_L_setRoad_8 rfl rfl ?_
  refine v_bipush cx (by decide) d_L_setRoad_9 ?_
  refine v_imul cx d_L_setRoad_11 ?_
  refine v_iadd cx d_L_setRoad_12 ?_
  refine v_nm (fun x2 ex2 => ?_)
  replace h := h x2 ex2
  refine v_istore (lv' := [(0, .ref (ad 3)), (1, .int (zI which)), (2, .ref (ad 25)), (3, .int (zI size)), (4, .int (zI x2))]) cx d_L_setRoad_13 (by decide) rfl rfl ?_
  refine v_aload_n cx 0 d_L_setRoad_15 rfl rfl ?_
  refine gf_L_11 cx d_L_setRoad_16 ?_
  refine v_iload cx 4 d_L_setRoad_19 rfl ?_
  refine v_iload_n cx 3 d_L_setRoad_21 rfl rfl ?_
  obtain ⟨hb3, h⟩ := h
  refine v_iast cx zl_4 (by decide) hb3.1 hb3.2 hsize d_L_setRoad_22 ?_
  refine v_ns (fun σ4 eσ4 => ?_)
  replace h := h σ4 eσ4
  refine v_aload_n cx 2 d_L_setRoad_23 rfl rfl ?_
  refine v_iconst cx d_L_setRoad_24 ?_
  refine v_aload_n cx 0 d_L_setRoad_25 rfl rfl ?_
  refine gf_L_11 cx d_L_setRoad_26 ?_
  refine v_iload cx 4 d_L_setRoad_29 rfl ?_
  refine v_iconst cx d_L_setRoad_31 ?_
  refine v_iadd cx d_L_setRoad_32 ?_
  refine v_iload_n cx 3 d_L_setRoad_33 rfl rfl ?_
  obtain ⟨hz5, h⟩ := h
  obtain ⟨hz6, h⟩ := h
  obtain ⟨hz7, h⟩ := h
  obtain ⟨hz8, h⟩ := h
  refine v_copy cx zl_25 zl_4 lk_L_27 zcopy.1 zcopy.2.1 zcopy.2.2 (by decide) hz5 hz6 hz7 hz8 (by decide) (by decide) (Nat.le_of_ble_eq_true rfl) (Nat.le_of_ble_eq_true rfl) d_L_setRoad_34 ?_
  refine v_ns (fun σ9 eσ9 => ?_)
  replace h := h σ9 eσ9
  exact rt _ _ _ _ _ (Nat.le_of_ble_eq_true rfl) (Nat.le_of_ble_eq_true rfl) d_L_setRoad_37 h
def q_L_builtBits (K : Int → zS → Prop) (σ : zS) : Prop :=
  ∃ (I4 : Int → Int → zS → Prop) (μ4 : Int → Int → zS → Nat), (I4 0 0 σ) ∧ ∀ (y1 y2 : Int) (σ3 : zS), I4 y1 y2 σ3 → zR y1 → zR y2 → 
  (4 ≤ y2 →
    K y1 σ3) ∧ (y2 < 4 →
    q_L_isBuilt y2 (fun r6 σ5 =>
      (r6 = 0 →
        ∀ x8 : Int, x8 = zOr y1 0 → I4 x8 (y2 + 1) σ5 ∧ zR (y2 + 1) ∧ μ4 x8 (y2 + 1) σ5 < μ4 y1 y2 σ3) ∧ (r6 ≠ 0 →
        ∀ x11 : Int, x11 = zOr y1 (zShl 1 y2) → I4 x11 (y2 + 1) σ5 ∧ zR (y2 + 1) ∧ μ4 x11 (y2 + 1) σ5 < μ4 y1 y2 σ3)) σ3)
abbrev rm_L_builtBits : Room := { frames := 2, cells := 0, slots := 0, locals := 42 }
set_option maxRecDepth 20000 in
set_option maxHeartbeats 4000000 in
theorem s_L_builtBits {Ω : zO} {ad : Nat → Nat} {K : Int → zS → Prop} {σ : zS}  (h : q_L_builtBits K σ) : zMi Ω y_L_builtBits (.code y_L_builtBits c_L_builtBits 3 (some .int)) rm_L_builtBits zLy ad [.ref (ad 3)] σ K := by
  refine z_ofi (lv := [(0, .ref (ad 3))]) (by decide) rfl (Nat.le_of_ble_eq_true rfl) ?_
  intro Γ Q cx rt
  unfold q_L_builtBits at h
  refine v_iconst cx d_L_builtBits_0 ?_
  refine v_istore_n (lv' := [(0, .ref (ad 3)), (1, .int (zI 0))]) cx d_L_builtBits_1 rfl (by decide) rfl rfl ?_
  refine v_iconst cx d_L_builtBits_2 ?_
  refine v_istore_n (lv' := [(0, .ref (ad 3)), (1, .int (zI 0)), (2, .int (zI 0))]) cx d_L_builtBits_3 rfl (by decide) rfl rfl ?_
  obtain ⟨I4, μ4, h0, h⟩ := h
  have L4 : ∀ (N4 : Nat) (y1 y2 : Int) (σ3 : zS), μ4 y1 y2 σ3 < N4 → I4 y1 y2 σ3 → zR y1 → zR y2 → zV Ω Γ rm_L_builtBits 3 Q 0 0 zLy ad σ3 4 [(0, .ref (ad 3)), (1, .int (zI y1)), (2, .int (zI y2))] [] := by
    intro N4
    induction N4 with
    | zero => intro y1 y2 σ3 hm; exact absurd hm (Nat.not_lt_zero _)
    | succ N4 ih4 =>
      intro y1 y2 σ3 hmm4 hI hy1 hy2
      replace h := h y1 y2 σ3 hI hy1 hy2
      refine v_iload_n cx 2 d_L_builtBits_4 rfl rfl ?_
      refine v_iconst cx d_L_builtBits_5 ?_
      refine v_icmp_ge cx 33 d_L_builtBits_6 (by decide) hy2 ⟨by decide, by decide⟩ (fun c4 => ?_) (fun c4 => ?_)
      · replace h := h.1 c4
        refine v_iload_n cx 1 d_L_builtBits_33 rfl rfl ?_
        exact rt _ _ _ _ _ _ (Nat.le_of_ble_eq_true rfl) (Nat.le_of_ble_eq_true rfl) d_L_builtBits_34 hy1 h
      · replace h := h.2 c4
        refine v_iload_n cx 1 d_L_builtBits_9 rfl rfl ?_
        refine v_aload_n cx 0 d_L_builtBits_10 rfl rfl ?_
        refine v_iload_n cx 2 d_L_builtBits_11 rfl rfl ?_
        refine v_callVz0 (st := [.int (zI y1)]) cx (s_L_isBuilt hy2 h) yk_L_isBuilt lk_L_67 zl_3 rfl rfl rfl (Nat.le_of_ble_eq_true rfl) ⟨Nat.le_of_ble_eq_true rfl, Nat.le_of_ble_eq_true rfl⟩ ⟨rfl, rfl⟩ ⟨(Nat.le_of_ble_eq_true rfl), (Nat.le_of_ble_eq_true rfl)⟩ d_L_builtBits_12 (fun r6 σ5 hr6 h => ?_)
        refine v_if_eq cx 24 d_L_builtBits_15 (by decide) (zR_b hr6) (fun c7 => ?_) (fun c7 => ?_)
        · replace h := h.1 c7
          refine v_iconst cx d_L_builtBits_24 ?_
          refine v_ior cx d_L_builtBits_25 ?_
          refine v_nm (fun x8 ex8 => ?_)
          replace h := h x8 ex8
          have hx8 : zR x8 := by rw [ex8]; exact (zR_or _ _)
          refine v_istore_n (lv' := [(0, .ref (ad 3)), (1, .int (zI x8)), (2, .int (zI y2))]) cx d_L_builtBits_26 rfl (by decide) rfl rfl ?_
          refine v_iinc (lv' := [(0, .ref (ad 3)), (1, .int (zI x8)), (2, .int (zI (y2 + 1)))]) cx 2 d_L_builtBits_27 rfl (by decide) rfl rfl ?_
          refine v_goto cx 4 d_L_builtBits_30 (by decide) ?_
          obtain ⟨hI2, hz10, hm2⟩ := h
          exact ih4 _ _ _ (Nat.lt_of_lt_of_le hm2 (Nat.le_of_lt_succ hmm4)) hI2 hx8 hz10
        · replace h := h.2 c7
          refine v_iconst cx d_L_builtBits_18 ?_
          refine v_iload_n cx 2 d_L_builtBits_19 rfl rfl ?_
          refine v_ishl cx d_L_builtBits_20 ?_
          refine v_goto cx 25 d_L_builtBits_21 (by decide) ?_
          refine v_ior cx d_L_builtBits_25 ?_
          refine v_nm (fun x11 ex11 => ?_)
          replace h := h x11 ex11
          have hx11 : zR x11 := by rw [ex11]; exact (zR_or _ _)
          refine v_istore_n (lv' := [(0, .ref (ad 3)), (1, .int (zI x11)), (2, .int (zI y2))]) cx d_L_builtBits_26 rfl (by decide) rfl rfl ?_
          refine v_iinc (lv' := [(0, .ref (ad 3)), (1, .int (zI x11)), (2, .int (zI (y2 + 1)))]) cx 2 d_L_builtBits_27 rfl (by decide) rfl rfl ?_
          refine v_goto cx 4 d_L_builtBits_30 (by decide) ?_
          obtain ⟨hI2, hz13, hm2⟩ := h
          exact ih4 _ _ _ (Nat.lt_of_lt_of_le hm2 (Nat.le_of_lt_succ hmm4)) hI2 hx11 hz13
  exact L4 _ _ _ _ (Nat.lt_succ_self _) h0 ⟨by decide, by decide⟩ ⟨by decide, by decide⟩
def q_L_headingTo (place : Int) (next : Int) (K : Int → zS → Prop) (σ : zS) : Prop :=
  ∃ (I2 : Int → Prop) (μ2 : Int → Nat), (I2 0) ∧ ∀ (y1 : Int), I2 y1 → zR y1 → 
  (7 ≤ y1 →
    K y1 σ) ∧ (y1 < 7 →
    (0 ≤ (place * 8) + y1 ∧ (place * 8) + y1 < 648) ∧ (((σ 5 ((place * 8) + y1)) = next →
        K y1 σ) ∧ ((σ 5 ((place * 8) + y1)) ≠ next →
        I2 (y1 + 1) ∧ zR (y1 + 1) ∧ μ2 (y1 + 1) < μ2 y1)))
abbrev rm_L_headingTo : Room := { frames := 0, cells := 0, slots := 0, locals := 0 }
set_option maxRecDepth 20000 in
set_option maxHeartbeats 4000000 in
theorem s_L_headingTo {Ω : zO} {ad : Nat → Nat} {place : Int} {next : Int} {K : Int → zS → Prop} {σ : zS} (hplace : zR place) (hnext : zR next) (h : q_L_headingTo place next K σ) : zMi Ω y_L_headingTo (.code y_L_headingTo c_L_headingTo 4 (some .int)) rm_L_headingTo zLy ad [.ref (ad 3), .int (zI place), .int (zI next)] σ K := by
  refine z_ofi (lv := [(0, .ref (ad 3)), (1, .int (zI place)), (2, .int (zI next))]) (by decide) rfl (Nat.le_of_ble_eq_true rfl) ?_
  intro Γ Q cx rt
  unfold q_L_headingTo at h
  refine v_iconst cx d_L_headingTo_0 ?_
  refine v_istore_n (lv' := [(0, .ref (ad 3)), (1, .int (zI place)), (2, .int (zI next)), (3, .int (zI 0))]) cx d_L_headingTo_1 rfl (by decide) rfl rfl ?_
  obtain ⟨I2, μ2, h0, h⟩ := h
  have L2 : ∀ (N2 : Nat) (y1 : Int), μ2 y1 < N2 → I2 y1 → zR y1 → zV Ω Γ rm_L_headingTo 4 Q 0 0 zLy ad σ 2 [(0, .ref (ad 3)), (1, .int (zI place)), (2, .int (zI next)), (3, .int (zI y1))] [] := by
    intro N2
    induction N2 with
    | zero => intro y1 hm; exact absurd hm (Nat.not_lt_zero _)
    | succ N2 ih2 =>
      intro y1 hmm2 hI hy1
      replace h := h y1 hI hy1
      refine v_iload_n cx 3 d_L_headingTo_2 rfl rfl ?_
      refine v_bipush cx (by decide) d_L_headingTo_3 ?_
      refine v_icmp_ge cx 29 d_L_headingTo_5 (by decide) hy1 ⟨by decide, by decide⟩ (fun c2 => ?_) (fun c2 => ?_)
      · replace h := h.1 c2
        refine v_iload_n cx 3 d_L_headingTo_29 rfl rfl ?_
        exact rt _ _ _ _ _ _ (Nat.le_of_ble_eq_true rfl) (Nat.le_of_ble_eq_true rfl) d_L_headingTo_30 hy1 h
      · replace h := h.2 c2
        refine v_aload_n cx 0 d_L_headingTo_8 rfl rfl ?_
        refine gf_L_15 cx d_L_headingTo_9 ?_
        refine v_iload_n cx 1 d_L_headingTo_12 rfl rfl ?_
        refine v_bipush cx (by decide) d_L_headingTo_13 ?_
        refine v_imul cx d_L_headingTo_15 ?_
        refine v_iload_n cx 3 d_L_headingTo_16 rfl rfl ?_
        refine v_iadd cx d_L_headingTo_17 ?_
        obtain ⟨hb3, h⟩ := h
        refine v_iald cx zl_5 (by decide) hb3.1 hb3.2 d_L_headingTo_18 (fun hl4 => ?_)
        refine v_iload_n cx 2 d_L_headingTo_19 rfl rfl ?_
        refine v_icmp_eq cx 29 d_L_headingTo_20 (by decide) hl4 hnext (fun c5 => ?_) (fun c5 => ?_)
        · replace h := h.1 c5
          refine v_iload_n cx 3 d_L_headingTo_29 rfl rfl ?_
          exact rt _ _ _ _ _ _ (Nat.le_of_ble_eq_true rfl) (Nat.le_of_ble_eq_true rfl) d_L_headingTo_30 hy1 h
        · replace h := h.2 c5
          refine v_iinc (lv' := [(0, .ref (ad 3)), (1, .int (zI place)), (2, .int (zI next)), (3, .int (zI (y1 + 1)))]) cx 3 d_L_headingTo_23 rfl (by decide) rfl rfl ?_
          refine v_goto cx 2 d_L_headingTo_26 (by decide) ?_
          obtain ⟨hI2, hz7, hm2⟩ := h
          exact ih2 _ (Nat.lt_of_lt_of_le hm2 (Nat.le_of_lt_succ hmm2)) hI2 hz7
  exact L2 _ _ (Nat.lt_succ_self _) h0 ⟨by decide, by decide⟩
def q_L_roadHeading (which : Int) (k_ : Int) (K : Int → zS → Prop) (σ : zS) : Prop :=
  q_L_roadPlace which k_ (fun r2 σ1 =>
    zR (k_ + 1) ∧ (q_L_roadPlace which (k_ + 1) (fun r5 σ4 =>
        q_L_headingTo r2 r5 (fun r7 σ6 =>
          K r7 σ6) σ4) σ1)) σ
abbrev rm_L_roadHeading : Room := { frames := 1, cells := 0, slots := 0, locals := 23 }
set_option maxRecDepth 20000 in
set_option maxHeartbeats 4000000 in
theorem s_L_roadHeading {Ω : zO} {ad : Nat → Nat} {which : Int} {k_ : Int} {K : Int → zS → Prop} {σ : zS} (hwhich : zR which) (hk_ : zR k_) (h : q_L_roadHeading which k_ K σ) : zMi Ω y_L_roadHeading (.code y_L_roadHeading c_L_roadHeading 3 (some .int)) rm_L_roadHeading zLy ad [.ref (ad 3), .int (zI which), .int (zI k_)] σ K := by
  refine z_ofi (lv := [(0, .ref (ad 3)), (1, .int (zI which)), (2, .int (zI k_))]) (by decide) rfl (Nat.le_of_ble_eq_true rfl) ?_
  intro Γ Q cx rt
  unfold q_L_roadHeading at h
  refine v_aload_n cx 0 d_L_roadHeading_0 rfl rfl ?_
  refine v_aload_n cx 0 d_L_roadHeading_1 rfl rfl ?_
  refine v_iload_n cx 1 d_L_roadHeading_2 rfl rfl ?_
  refine v_iload_n cx 2 d_L_roadHeading_3 rfl rfl ?_
  refine v_callVi0 (st := [.ref (ad 3)]) cx (s_L_roadPlace hwhich hk_ h) yk_L_roadPlace lk_L_71 zl_3 rfl rfl rfl (Nat.le_of_ble_eq_true rfl) ⟨Nat.le_of_ble_eq_true rfl, Nat.le_of_ble_eq_true rfl⟩ ⟨rfl, rfl⟩ ⟨(Nat.le_of_ble_eq_true rfl), (Nat.le_of_ble_eq_true rfl)⟩ d_L_roadHeading_4 (fun r2 σ1 hr2 h => ?_)
  refine v_aload_n cx 0 d_L_roadHeading_7 rfl rfl ?_
  refine v_iload_n cx 1 d_L_roadHeading_8 rfl rfl ?_
  refine v_iload_n cx 2 d_L_roadHeading_9 rfl rfl ?_
  refine v_iconst cx d_L_roadHeading_10 ?_
  refine v_iadd cx d_L_roadHeading_11 ?_
  obtain ⟨hr3, h⟩ := h
  refine v_callVi0 (st := [.int (zI r2), .ref (ad 3)]) cx (s_L_roadPlace hwhich hr3 h) yk_L_roadPlace lk_L_71 zl_3 rfl rfl rfl (Nat.le_of_ble_eq_true rfl) ⟨Nat.le_of_ble_eq_true rfl, Nat.le_of_ble_eq_true rfl⟩ ⟨rfl, rfl⟩ ⟨(Nat.le_of_ble_eq_true rfl), (Nat.le_of_ble_eq_true rfl)⟩ d_L_roadHeading_12 (fun r5 σ4 hr5 h => ?_)
  refine v_callVi0 (st := []) cx (s_L_headingTo hr2 hr5 h) yk_L_headingTo lk_L_75 zl_3 rfl rfl rfl (Nat.le_of_ble_eq_true rfl) ⟨Nat.le_of_ble_eq_true rfl, Nat.le_of_ble_eq_true rfl⟩ ⟨rfl, rfl⟩ ⟨(Nat.le_of_ble_eq_true rfl), (Nat.le_of_ble_eq_true rfl)⟩ d_L_roadHeading_15 (fun r7 σ6 hr7 h => ?_)
  exact rt _ _ _ _ _ _ (Nat.le_of_ble_eq_true rfl) (Nat.le_of_ble_eq_true rfl) d_L_roadHeading_18 hr7 h
def q_L_besideOf (place : Int) (heading : Int) (K : Int → zS → Prop) (σ : zS) : Prop :=
  (0 ≤ (place * 8) + heading ∧ (place * 8) + heading < 648) ∧ (K (σ 5 ((place * 8) + heading)) σ)
abbrev rm_L_besideOf : Room := { frames := 0, cells := 0, slots := 0, locals := 0 }
set_option maxRecDepth 20000 in
set_option maxHeartbeats 4000000 in
theorem s_L_besideOf {Ω : zO} {ad : Nat → Nat} {place : Int} {heading : Int} {K : Int → zS → Prop} {σ : zS} (hplace : zR place) (hheading : zR heading) (h : q_L_besideOf place heading K σ) : zMi Ω y_L_besideOf (.code y_L_besideOf c_L_besideOf 3 (some .int)) rm_L_besideOf zLy ad [.ref (ad 3), .int (zI place), .int (zI heading)] σ K := by
  refine z_ofi (lv := [(0, .ref (ad 3)), (1, .int (zI place)), (2, .int (zI heading))]) (by decide) rfl (Nat.le_of_ble_eq_true rfl) ?_
  intro Γ Q cx rt
  unfold q_L_besideOf at h
  refine v_aload_n cx 0 d_L_besideOf_0 rfl rfl ?_
  refine gf_L_15 cx d_L_besideOf_1 ?_
  refine v_iload_n cx 1 d_L_besideOf_4 rfl rfl ?_
  refine v_bipush cx (by decide) d_L_besideOf_5 ?_
  refine v_imul cx d_L_besideOf_7 ?_
  refine v_iload_n cx 2 d_L_besideOf_8 rfl rfl ?_
  refine v_iadd cx d_L_besideOf_9 ?_
  obtain ⟨hb1, h⟩ := h
  refine v_iald cx zl_5 (by decide) hb1.1 hb1.2 d_L_besideOf_10 (fun hl2 => ?_)
  exact rt _ _ _ _ _ _ (Nat.le_of_ble_eq_true rfl) (Nat.le_of_ble_eq_true rfl) d_L_besideOf_11 hl2 h
def q_L_isEdge (place : Int) (K : Int → zS → Prop) (σ : zS) : Prop :=
  ∃ (I2 : Int → zS → Prop) (μ2 : Int → zS → Nat), (I2 0 σ) ∧ ∀ (y1 : Int) (σ2 : zS), I2 y1 σ2 → zR y1 → 
  (8 ≤ y1 →
    K 0 σ2) ∧ (y1 < 8 →
    q_L_besideOf place y1 (fun r5 σ4 =>
      (r5 ≠ (-1) →
        I2 (y1 + 1) σ4 ∧ zR (y1 + 1) ∧ μ2 (y1 + 1) σ4 < μ2 y1 σ2) ∧ (r5 = (-1) →
        K 1 σ4)) σ2)
abbrev rm_L_isEdge : Room := { frames := 1, cells := 0, slots := 0, locals := 22 }
set_option maxRecDepth 20000 in
set_option maxHeartbeats 4000000 in
theorem s_L_isEdge {Ω : zO} {ad : Nat → Nat} {place : Int} {K : Int → zS → Prop} {σ : zS} (hplace : zR place) (h : q_L_isEdge place K σ) : zMz Ω y_L_isEdge (.code y_L_isEdge c_L_isEdge 3 (some .boolean)) rm_L_isEdge zLy ad [.ref (ad 3), .int (zI place)] σ K := by
  refine z_ofz (lv := [(0, .ref (ad 3)), (1, .int (zI place))]) (by decide) rfl (Nat.le_of_ble_eq_true rfl) ?_
  intro Γ Q cx rt
  unfold q_L_isEdge at h
  refine v_iconst cx d_L_isEdge_0 ?_
  refine v_istore_n (lv' := [(0, .ref (ad 3)), (1, .int (zI place)), (2, .int (zI 0))]) cx d_L_isEdge_1 rfl (by decide) rfl rfl ?_
  obtain ⟨I2, μ2, h0, h⟩ := h
  have L2 : ∀ (N2 : Nat) (y1 : Int) (σ2 : zS), μ2 y1 σ2 < N2 → I2 y1 σ2 → zR y1 → zV Ω Γ rm_L_isEdge 3 Q 0 0 zLy ad σ2 2 [(0, .ref (ad 3)), (1, .int (zI place)), (2, .int (zI y1))] [] := by
    intro N2
    induction N2 with
    | zero => intro y1 σ2 hm; exact absurd hm (Nat.not_lt_zero _)
    | succ N2 ih2 =>
      intro y1 σ2 hmm2 hI hy1
      replace h := h y1 σ2 hI hy1
      refine v_iload_n cx 2 d_L_isEdge_2 rfl rfl ?_
      refine v_bipush cx (by decide) d_L_isEdge_3 ?_
      refine v_icmp_ge cx 26 d_L_isEdge_5 (by decide) hy1 ⟨by decide, by decide⟩ (fun c3 => ?_) (fun c3 => ?_)
      · replace h := h.1 c3
        refine v_iconst cx d_L_isEdge_26 ?_
        exact rt _ _ _ _ _ _ (Nat.le_of_ble_eq_true rfl) (Nat.le_of_ble_eq_true rfl) d_L_isEdge_27 (Or.inl rfl) h
      · replace h := h.2 c3
        refine v_aload_n cx 0 d_L_isEdge_8 rfl rfl ?_
        refine v_iload_n cx 1 d_L_isEdge_9 rfl rfl ?_
        refine v_iload_n cx 2 d_L_isEdge_10 rfl rfl ?_
        refine v_callVi0 (st := []) cx (s_L_besideOf hplace hy1 h) yk_L_besideOf lk_L_78 zl_3 rfl rfl rfl (Nat.le_of_ble_eq_true rfl) ⟨Nat.le_of_ble_eq_true rfl, Nat.le_of_ble_eq_true rfl⟩ ⟨rfl, rfl⟩ ⟨(Nat.le_of_ble_eq_true rfl), (Nat.le_of_ble_eq_true rfl)⟩ d_L_isEdge_11 (fun r5 σ4 hr5 h => ?_)
        refine v_iconst cx d_L_isEdge_14 ?_
        refine v_icmp_ne cx 20 d_L_isEdge_15 (by decide) hr5 ⟨by decide, by decide⟩ (fun c6 => ?_) (fun c6 => ?_)
        · replace h := h.1 c6
          refine v_iinc (lv' := [(0, .ref (ad 3)), (1, .int (zI place)), (2, .int (zI (y1 + 1)))]) cx 2 d_L_isEdge_20 rfl (by decide) rfl rfl ?_
          refine v_goto cx 2 d_L_isEdge_23 (by decide) ?_
          obtain ⟨hI2, hz8, hm2⟩ := h
          exact ih2 _ _ (Nat.lt_of_lt_of_le hm2 (Nat.le_of_lt_succ hmm2)) hI2 hz8
        · replace h := h.2 c6
          refine v_iconst cx d_L_isEdge_18 ?_
          exact rt _ _ _ _ _ _ (Nat.le_of_ble_eq_true rfl) (Nat.le_of_ble_eq_true rfl) d_L_isEdge_19 (Or.inr rfl) h
  exact L2 _ _ _ (Nat.lt_succ_self _) h0 ⟨by decide, by decide⟩
def q_L_differ (place : Int) (other : Int) (K : Int → zS → Prop) (σ : zS) : Prop :=
  (0 ≤ 13 + other ∧ 13 + other < 499) ∧ ((0 ≤ 13 + place ∧ 13 + place < 499) ∧ (∀ x5 : Int, x5 = (σ 4 (13 + other)) - (σ 4 (13 + place)) → zR x5 ∧ ((0 ≤ x5 →
          K x5 σ) ∧ (x5 < 0 →
          zR (-x5) ∧ (K (-x5) σ)))))
abbrev rm_L_differ : Room := { frames := 0, cells := 0, slots := 0, locals := 0 }
set_option maxRecDepth 20000 in
set_option maxHeartbeats 4000000 in
theorem s_L_differ {Ω : zO} {ad : Nat → Nat} {place : Int} {other : Int} {K : Int → zS → Prop} {σ : zS} (hplace : zR place) (hother : zR other) (h : q_L_differ place other K σ) : zMi Ω y_L_differ (.code y_L_differ c_L_differ 4 (some .int)) rm_L_differ zLy ad [.ref (ad 3), .int (zI place), .int (zI other)] σ K := by
  refine z_ofi (lv := [(0, .ref (ad 3)), (1, .int (zI place)), (2, .int (zI other))]) (by decide) rfl (Nat.le_of_ble_eq_true rfl) ?_
  intro Γ Q cx rt
  unfold q_L_differ at h
  refine v_aload_n cx 0 d_L_differ_0 rfl rfl ?_
  refine gf_L_11 cx d_L_differ_1 ?_
  refine v_bipush cx (by decide) d_L_differ_4 ?_
  refine v_iload_n cx 2 d_L_differ_6 rfl rfl ?_
  refine v_iadd cx d_L_differ_7 ?_
  obtain ⟨hb1, h⟩ := h
  refine v_iald cx zl_4 (by decide) hb1.1 hb1.2 d_L_differ_8 (fun hl2 => ?_)
  refine v_aload_n cx 0 d_L_differ_9 rfl rfl ?_
  refine gf_L_11 cx d_L_differ_10 ?_
  refine v_bipush cx (by decide) d_L_differ_13 ?_
  refine v_iload_n cx 1 d_L_differ_15 rfl rfl ?_
  refine v_iadd cx d_L_differ_16 ?_
  obtain ⟨hb3, h⟩ := h
  refine v_iald cx zl_4 (by decide) hb3.1 hb3.2 d_L_differ_17 (fun hl4 => ?_)
  refine v_isub cx d_L_differ_18 ?_
  refine v_nm (fun x5 ex5 => ?_)
  replace h := h x5 ex5
  refine v_istore_n (lv' := [(0, .ref (ad 3)), (1, .int (zI place)), (2, .int (zI other)), (3, .int (zI x5))]) cx d_L_differ_19 rfl (by decide) rfl rfl ?_
  refine v_iload_n cx 3 d_L_differ_20 rfl rfl ?_
  obtain ⟨hr6, h⟩ := h
  refine v_if_ge cx 29 d_L_differ_21 (by decide) hr6 (fun c7 => ?_) (fun c7 => ?_)
  · replace h := h.1 c7
    refine v_iload_n cx 3 d_L_differ_29 rfl rfl ?_
    exact rt _ _ _ _ _ _ (Nat.le_of_ble_eq_true rfl) (Nat.le_of_ble_eq_true rfl) d_L_differ_30 hr6 h
  · replace h := h.2 c7
    refine v_iload_n cx 3 d_L_differ_24 rfl rfl ?_
    refine v_ineg cx d_L_differ_25 ?_
    refine v_goto cx 30 d_L_differ_26 (by decide) ?_
    obtain ⟨hr8, h⟩ := h
    exact rt _ _ _ _ _ _ (Nat.le_of_ble_eq_true rfl) (Nat.le_of_ble_eq_true rfl) d_L_differ_30 hr8 h
def q_L_isOpen (place : Int) (heading : Int) (K : Int → zS → Prop) (σ : zS) : Prop :=
  q_L_besideOf place heading (fun r2 σ1 =>
    (r2 = (-1) →
      K 0 σ1) ∧ (r2 ≠ (-1) →
      q_L_isWet place (fun r5 σ4 =>
        (r5 ≠ 0 →
          K 0 σ4) ∧ (r5 = 0 →
          q_L_isWet r2 (fun r8 σ7 =>
            (r8 = 0 →
              ((zAnd heading 1) = 0 →
                K 1 σ7) ∧ ((zAnd heading 1) ≠ 0 →
                q_L_besideOf place (zAnd (heading - 1) 7) (fun r12 σ11 =>
                  q_L_isWet r12 (fun r14 σ13 =>
                    (r14 = 0 →
                      K 1 σ13) ∧ (r14 ≠ 0 →
                      q_L_besideOf place (zAnd (heading + 1) 7) (fun r17 σ16 =>
                        q_L_isWet r17 (fun r19 σ18 =>
                          (r19 ≠ 0 →
                            K 0 σ18) ∧ (r19 = 0 →
                            K 1 σ18)) σ16) σ13)) σ11) σ7)) ∧ (r8 ≠ 0 →
              K 0 σ7)) σ4)) σ1)) σ
abbrev rm_L_isOpen : Room := { frames := 1, cells := 0, slots := 0, locals := 22 }
set_option maxRecDepth 20000 in
set_option maxHeartbeats 4000000 in
theorem s_L_isOpen {Ω : zO} {ad : Nat → Nat} {place : Int} {heading : Int} {K : Int → zS → Prop} {σ : zS} (hplace : zR place) (hheading : zR heading) (h : q_L_isOpen place heading K σ) : zMz Ω y_L_isOpen (.code y_L_isOpen c_L_isOpen 4 (some .boolean)) rm_L_isOpen zLy ad [.ref (ad 3), .int (zI place), .int (zI heading)] σ K := by
  refine z_ofz (lv := [(0, .ref (ad 3)), (1, .int (zI place)), (2, .int (zI heading))]) (by decide) rfl (Nat.le_of_ble_eq_true rfl) ?_
  intro Γ Q cx rt
  unfold q_L_isOpen at h
  refine v_aload_n cx 0 d_L_isOpen_0 rfl rfl ?_
  refine v_iload_n cx 1 d_L_isOpen_1 rfl rfl ?_
  refine v_iload_n cx 2 d_L_isOpen_2 rfl rfl ?_
  refine v_callVi0 (st := []) cx (s_L_besideOf hplace hheading h) yk_L_besideOf lk_L_78 zl_3 rfl rfl rfl (Nat.le_of_ble_eq_true rfl) ⟨Nat.le_of_ble_eq_true rfl, Nat.le_of_ble_eq_true rfl⟩ ⟨rfl, rfl⟩ ⟨(Nat.le_of_ble_eq_true rfl), (Nat.le_of_ble_eq_true rfl)⟩ d_L_isOpen_3 (fun r2 σ1 hr2 h => ?_)
  refine v_istore_n (lv' := [(0, .ref (ad 3)), (1, .int (zI place)), (2, .int (zI heading)), (3, .int (zI r2))]) cx d_L_isOpen_6 rfl (by decide) rfl rfl ?_
  refine v_iload_n cx 3 d_L_isOpen_7 rfl rfl ?_
  refine v_iconst cx d_L_isOpen_8 ?_
  refine v_icmp_eq cx 28 d_L_isOpen_9 (by decide) hr2 ⟨by decide, by decide⟩ (fun c3 => ?_) (fun c3 => ?_)
  · replace h := h.1 c3
    refine v_iconst cx d_L_isOpen_28 ?_
    exact rt _ _ _ _ _ _ (Nat.le_of_ble_eq_true rfl) (Nat.le_of_ble_eq_true rfl) d_L_isOpen_29 (Or.inl rfl) h
  · replace h := h.2 c3
    refine v_aload_n cx 0 d_L_isOpen_12 rfl rfl ?_
    refine v_iload_n cx 1 d_L_isOpen_13 rfl rfl ?_
    refine v_callVz0 (st := []) cx (s_L_isWet hplace h) yk_L_isWet lk_L_81 zl_3 rfl rfl rfl (Nat.le_of_ble_eq_true rfl) ⟨Nat.le_of_ble_eq_true rfl, Nat.le_of_ble_eq_true rfl⟩ ⟨rfl, rfl⟩ ⟨(Nat.le_of_ble_eq_true rfl), (Nat.le_of_ble_eq_true rfl)⟩ d_L_isOpen_14 (fun r5 σ4 hr5 h => ?_)
    refine v_if_ne cx 28 d_L_isOpen_17 (by decide) (zR_b hr5) (fun c6 => ?_) (fun c6 => ?_)
    · replace h := h.1 c6
      refine v_iconst cx d_L_isOpen_28 ?_
      exact rt _ _ _ _ _ _ (Nat.le_of_ble_eq_true rfl) (Nat.le_of_ble_eq_true rfl) d_L_isOpen_29 (Or.inl rfl) h
    · replace h := h.2 c6
      refine v_aload_n cx 0 d_L_isOpen_20 rfl rfl ?_
      refine v_iload_n cx 3 d_L_isOpen_21 rfl rfl ?_
      refine v_callVz0 (st := []) cx (s_L_isWet hr2 h) yk_L_isWet lk_L_81 zl_3 rfl rfl rfl (Nat.le_of_ble_eq_true rfl) ⟨Nat.le_of_ble_eq_true rfl, Nat.le_of_ble_eq_true rfl⟩ ⟨rfl, rfl⟩ ⟨(Nat.le_of_ble_eq_true rfl), (Nat.le_of_ble_eq_true rfl)⟩ d_L_isOpen_22 (fun r8 σ7 hr8 h => ?_)
      refine v_if_eq cx 30 d_L_isOpen_25 (by decide) (zR_b hr8) (fun c9 => ?_) (fun c9 => ?_)
      · replace h := h.1 c9
        refine v_iload_n cx 2 d_L_isOpen_30 rfl rfl ?_
        refine v_iconst cx d_L_isOpen_31 ?_
        refine v_iand cx d_L_isOpen_32 ?_
        refine v_if_eq cx 72 d_L_isOpen_33 (by decide) (zR_and _ _) (fun c10 => ?_) (fun c10 => ?_)
        · replace h := h.1 c10
          refine v_iconst cx d_L_isOpen_72 ?_
          refine v_goto cx 77 d_L_isOpen_73 (by decide) ?_
          exact rt _ _ _ _ _ _ (Nat.le_of_ble_eq_true rfl) (Nat.le_of_ble_eq_true rfl) d_L_isOpen_77 (Or.inr rfl) h
        · replace h := h.2 c10
          refine v_aload_n cx 0 d_L_isOpen_36 rfl rfl ?_
          refine v_aload_n cx 0 d_L_isOpen_37 rfl rfl ?_
          refine v_iload_n cx 1 d_L_isOpen_38 rfl rfl ?_
          refine v_iload_n cx 2 d_L_isOpen_39 rfl rfl ?_
          refine v_iconst cx d_L_isOpen_40 ?_
          refine v_isub cx d_L_isOpen_41 ?_
          refine v_bipush cx (by decide) d_L_isOpen_42 ?_
          refine v_iand cx d_L_isOpen_44 ?_
          refine v_callVi0 (st := [.ref (ad 3)]) cx (s_L_besideOf hplace (zR_and _ _) h) yk_L_besideOf lk_L_78 zl_3 rfl rfl rfl (Nat.le_of_ble_eq_true rfl) ⟨Nat.le_of_ble_eq_true rfl, Nat.le_of_ble_eq_true rfl⟩ ⟨rfl, rfl⟩ ⟨(Nat.le_of_ble_eq_true rfl), (Nat.le_of_ble_eq_true rfl)⟩ d_L_isOpen_45 (fun r12 σ11 hr12 h => ?_)
          refine v_callVz0 (st := []) cx (s_L_isWet hr12 h) yk_L_isWet lk_L_81 zl_3 rfl rfl rfl (Nat.le_of_ble_eq_true rfl) ⟨Nat.le_of_ble_eq_true rfl, Nat.le_of_ble_eq_true rfl⟩ ⟨rfl, rfl⟩ ⟨(Nat.le_of_ble_eq_true rfl), (Nat.le_of_ble_eq_true rfl)⟩ d_L_isOpen_48 (fun r14 σ13 hr14 h => ?_)
          refine v_if_eq cx 72 d_L_isOpen_51 (by decide) (zR_b hr14) (fun c15 => ?_) (fun c15 => ?_)
          · replace h := h.1 c15
            refine v_iconst cx d_L_isOpen_72 ?_
            refine v_goto cx 77 d_L_isOpen_73 (by decide) ?_
            exact rt _ _ _ _ _ _ (Nat.le_of_ble_eq_true rfl) (Nat.le_of_ble_eq_true rfl) d_L_isOpen_77 (Or.inr rfl) h
          · replace h := h.2 c15
            refine v_aload_n cx 0 d_L_isOpen_54 rfl rfl ?_
            refine v_aload_n cx 0 d_L_isOpen_55 rfl rfl ?_
            refine v_iload_n cx 1 d_L_isOpen_56 rfl rfl ?_
            refine v_iload_n cx 2 d_L_isOpen_57 rfl rfl ?_
            refine v_iconst cx d_L_isOpen_58 ?_
            refine v_iadd cx d_L_isOpen_59 ?_
            refine v_bipush cx (by decide) d_L_isOpen_60 ?_
            refine v_iand cx d_L_isOpen_62 ?_
            refine v_callVi0 (st := [.ref (ad 3)]) cx (s_L_besideOf hplace (zR_and _ _) h) yk_L_besideOf lk_L_78 zl_3 rfl rfl rfl (Nat.le_of_ble_eq_true rfl) ⟨Nat.le_of_ble_eq_true rfl, Nat.le_of_ble_eq_true rfl⟩ ⟨rfl, rfl⟩ ⟨(Nat.le_of_ble_eq_true rfl), (Nat.le_of_ble_eq_true rfl)⟩ d_L_isOpen_63 (fun r17 σ16 hr17 h => ?_)
            refine v_callVz0 (st := []) cx (s_L_isWet hr17 h) yk_L_isWet lk_L_81 zl_3 rfl rfl rfl (Nat.le_of_ble_eq_true rfl) ⟨Nat.le_of_ble_eq_true rfl, Nat.le_of_ble_eq_true rfl⟩ ⟨rfl, rfl⟩ ⟨(Nat.le_of_ble_eq_true rfl), (Nat.le_of_ble_eq_true rfl)⟩ d_L_isOpen_66 (fun r19 σ18 hr19 h => ?_)
            refine v_if_ne cx 76 d_L_isOpen_69 (by decide) (zR_b hr19) (fun c20 => ?_) (fun c20 => ?_)
            · replace h := h.1 c20
              refine v_iconst cx d_L_isOpen_76 ?_
              exact rt _ _ _ _ _ _ (Nat.le_of_ble_eq_true rfl) (Nat.le_of_ble_eq_true rfl) d_L_isOpen_77 (Or.inl rfl) h
            · replace h := h.2 c20
              refine v_iconst cx d_L_isOpen_72 ?_
              refine v_goto cx 77 d_L_isOpen_73 (by decide) ?_
              exact rt _ _ _ _ _ _ (Nat.le_of_ble_eq_true rfl) (Nat.le_of_ble_eq_true rfl) d_L_isOpen_77 (Or.inr rfl) h
      · replace h := h.2 c9
        refine v_iconst cx d_L_isOpen_28 ?_
        exact rt _ _ _ _ _ _ (Nat.le_of_ble_eq_true rfl) (Nat.le_of_ble_eq_true rfl) d_L_isOpen_29 (Or.inl rfl) h
def q_L_isSteep (place : Int) (heading : Int) (grade : Int) (K : Int → zS → Prop) (σ : zS) : Prop :=
  q_L_besideOf place heading (fun r2 σ1 =>
    q_L_differ place r2 (fun r4 σ3 =>
      q_R_longOf heading (fun r6 σ5 =>
        zR (100 * r4) ∧ (zR (grade * r6) ∧ (((100 * r4) ≤ (grade * r6) →
              K 0 σ5) ∧ ((grade * r6) < (100 * r4) →
              K 1 σ5)))) σ3) σ1) σ
abbrev rm_L_isSteep : Room := { frames := 1, cells := 0, slots := 0, locals := 23 }
set_option maxRecDepth 20000 in
set_option maxHeartbeats 4000000 in
theorem s_L_isSteep {Ω : zO} {ad : Nat → Nat} {place : Int} {heading : Int} {grade : Int} {K : Int → zS → Prop} {σ : zS} (hplace : zR place) (hheading : zR heading) (hgrade : zR grade) (h : q_L_isSteep place heading grade K σ) : zMz Ω y_L_isSteep (.code y_L_isSteep c_L_isSteep 4 (some .boolean)) rm_L_isSteep zLy ad [.ref (ad 3), .int (zI place), .int (zI heading), .int (zI grade)] σ K := by
  refine z_ofz (lv := [(0, .ref (ad 3)), (1, .int (zI place)), (2, .int (zI heading)), (3, .int (zI grade))]) (by decide) rfl (Nat.le_of_ble_eq_true rfl) ?_
  intro Γ Q cx rt
  unfold q_L_isSteep at h
  refine v_bipush cx (by decide) d_L_isSteep_0 ?_
  refine v_aload_n cx 0 d_L_isSteep_2 rfl rfl ?_
  refine v_iload_n cx 1 d_L_isSteep_3 rfl rfl ?_
  refine v_aload_n cx 0 d_L_isSteep_4 rfl rfl ?_
  refine v_iload_n cx 1 d_L_isSteep_5 rfl rfl ?_
  refine v_iload_n cx 2 d_L_isSteep_6 rfl rfl ?_
  refine v_callVi0 (st := [.int (zI place), .ref (ad 3), .int (zI 100)]) cx (s_L_besideOf hplace hheading h) yk_L_besideOf lk_L_78 zl_3 rfl rfl rfl (Nat.le_of_ble_eq_true rfl) ⟨Nat.le_of_ble_eq_true rfl, Nat.le_of_ble_eq_true rfl⟩ ⟨rfl, rfl⟩ ⟨(Nat.le_of_ble_eq_true rfl), (Nat.le_of_ble_eq_true rfl)⟩ d_L_isSteep_7 (fun r2 σ1 hr2 h => ?_)
  refine v_callVi0 (st := [.int (zI 100)]) cx (s_L_differ hplace hr2 h) yk_L_differ lk_L_84 zl_3 rfl rfl rfl (Nat.le_of_ble_eq_true rfl) ⟨Nat.le_of_ble_eq_true rfl, Nat.le_of_ble_eq_true rfl⟩ ⟨rfl, rfl⟩ ⟨(Nat.le_of_ble_eq_true rfl), (Nat.le_of_ble_eq_true rfl)⟩ d_L_isSteep_10 (fun r4 σ3 hr4 h => ?_)
  refine v_imul cx d_L_isSteep_13 ?_
  refine v_iload_n cx 3 d_L_isSteep_14 rfl rfl ?_
  refine v_iload_n cx 2 d_L_isSteep_15 rfl rfl ?_
  refine v_callNi0 (st := [.int (zI grade), .int (zI (100 * r4))]) cx (s_R_longOf hheading h) yk_R_longOf ln_L_87 rfl rfl (Nat.le_of_ble_eq_true rfl) ⟨Nat.le_of_ble_eq_true rfl, Nat.le_of_ble_eq_true rfl⟩ ⟨rfl, rfl⟩ ⟨(Nat.le_of_ble_eq_true rfl), (Nat.le_of_ble_eq_true rfl)⟩ d_L_isSteep_16 (fun r6 σ5 hr6 h => ?_)
  refine v_imul cx d_L_isSteep_19 ?_
  obtain ⟨hr7, h⟩ := h
  obtain ⟨hr8, h⟩ := h
  refine v_icmp_le cx 27 d_L_isSteep_20 (by decide) hr7 hr8 (fun c9 => ?_) (fun c9 => ?_)
  · replace h := h.1 c9
    refine v_iconst cx d_L_isSteep_27 ?_
    exact rt _ _ _ _ _ _ (Nat.le_of_ble_eq_true rfl) (Nat.le_of_ble_eq_true rfl) d_L_isSteep_28 (Or.inl rfl) h
  · replace h := h.2 c9
    refine v_iconst cx d_L_isSteep_23 ?_
    refine v_goto cx 28 d_L_isSteep_24 (by decide) ?_
    exact rt _ _ _ _ _ _ (Nat.le_of_ble_eq_true rfl) (Nat.le_of_ble_eq_true rfl) d_L_isSteep_28 (Or.inr rfl) h
def q_L_canStep (place : Int) (heading : Int) (K : Int → zS → Prop) (σ : zS) : Prop :=
  q_L_isOpen place heading (fun r2 σ1 =>
    (r2 = 0 →
      K 0 σ1) ∧ (r2 ≠ 0 →
      q_L_value 0 (fun r5 σ4 =>
        q_L_isSteep place heading r5 (fun r7 σ6 =>
          (r7 ≠ 0 →
            K 0 σ6) ∧ (r7 = 0 →
            K 1 σ6)) σ4) σ1)) σ
abbrev rm_L_canStep : Room := { frames := 2, cells := 0, slots := 0, locals := 46 }
set_option maxRecDepth 20000 in
set_option maxHeartbeats 4000000 in
theorem s_L_canStep {Ω : zO} {ad : Nat → Nat} {place : Int} {heading : Int} {K : Int → zS → Prop} {σ : zS} (hplace : zR place) (hheading : zR heading) (h : q_L_canStep place heading K σ) : zMz Ω y_L_canStep (.code y_L_canStep c_L_canStep 3 (some .boolean)) rm_L_canStep zLy ad [.ref (ad 3), .int (zI place), .int (zI heading)] σ K := by
  refine z_ofz (lv := [(0, .ref (ad 3)), (1, .int (zI place)), (2, .int (zI heading))]) (by decide) rfl (Nat.le_of_ble_eq_true rfl) ?_
  intro Γ Q cx rt
  unfold q_L_canStep at h
  refine v_aload_n cx 0 d_L_canStep_0 rfl rfl ?_
  refine v_iload_n cx 1 d_L_canStep_1 rfl rfl ?_
  refine v_iload_n cx 2 d_L_canStep_2 rfl rfl ?_
  refine v_callVz0 (st := []) cx (s_L_isOpen hplace hheading h) yk_L_isOpen lk_L_90 zl_3 rfl rfl rfl (Nat.le_of_ble_eq_true rfl) ⟨Nat.le_of_ble_eq_true rfl, Nat.le_of_ble_eq_true rfl⟩ ⟨rfl, rfl⟩ ⟨(Nat.le_of_ble_eq_true rfl), (Nat.le_of_ble_eq_true rfl)⟩ d_L_canStep_3 (fun r2 σ1 hr2 h => ?_)
  refine v_if_eq cx 27 d_L_canStep_6 (by decide) (zR_b hr2) (fun c3 => ?_) (fun c3 => ?_)
  · replace h := h.1 c3
    refine v_iconst cx d_L_canStep_27 ?_
    exact rt _ _ _ _ _ _ (Nat.le_of_ble_eq_true rfl) (Nat.le_of_ble_eq_true rfl) d_L_canStep_28 (Or.inl rfl) h
  · replace h := h.2 c3
    refine v_aload_n cx 0 d_L_canStep_9 rfl rfl ?_
    refine v_iload_n cx 1 d_L_canStep_10 rfl rfl ?_
    refine v_iload_n cx 2 d_L_canStep_11 rfl rfl ?_
    refine v_aload_n cx 0 d_L_canStep_12 rfl rfl ?_
    refine v_iconst cx d_L_canStep_13 ?_
    refine v_callVi0 (st := [.int (zI heading), .int (zI place), .ref (ad 3)]) cx (s_L_value ⟨by decide, by decide⟩ h) yk_L_value lk_L_94 zl_3 rfl rfl rfl (Nat.le_of_ble_eq_true rfl) ⟨Nat.le_of_ble_eq_true rfl, Nat.le_of_ble_eq_true rfl⟩ ⟨rfl, rfl⟩ ⟨(Nat.le_of_ble_eq_true rfl), (Nat.le_of_ble_eq_true rfl)⟩ d_L_canStep_14 (fun r5 σ4 hr5 h => ?_)
    refine v_callVz0 (st := []) cx (s_L_isSteep hplace hheading hr5 h) yk_L_isSteep lk_L_97 zl_3 rfl rfl rfl (Nat.le_of_ble_eq_true rfl) ⟨Nat.le_of_ble_eq_true rfl, Nat.le_of_ble_eq_true rfl⟩ ⟨rfl, rfl⟩ ⟨(Nat.le_of_ble_eq_true rfl), (Nat.le_of_ble_eq_true rfl)⟩ d_L_canStep_17 (fun r7 σ6 hr7 h => ?_)
    refine v_if_ne cx 27 d_L_canStep_20 (by decide) (zR_b hr7) (fun c8 => ?_) (fun c8 => ?_)
    · replace h := h.1 c8
      refine v_iconst cx d_L_canStep_27 ?_
      exact rt _ _ _ _ _ _ (Nat.le_of_ble_eq_true rfl) (Nat.le_of_ble_eq_true rfl) d_L_canStep_28 (Or.inl rfl) h
    · replace h := h.2 c8
      refine v_iconst cx d_L_canStep_23 ?_
      refine v_goto cx 28 d_L_canStep_24 (by decide) ?_
      exact rt _ _ _ _ _ _ (Nat.le_of_ble_eq_true rfl) (Nat.le_of_ble_eq_true rfl) d_L_canStep_28 (Or.inr rfl) h
def q_L_stepBits (place : Int) (K : Int → zS → Prop) (σ : zS) : Prop :=
  ∃ (I4 : Int → Int → zS → Prop) (μ4 : Int → Int → zS → Nat), (I4 0 0 σ) ∧ ∀ (y1 y2 : Int) (σ3 : zS), I4 y1 y2 σ3 → zR y1 → zR y2 → 
  (8 ≤ y2 →
    K y1 σ3) ∧ (y2 < 8 →
    q_L_canStep place y2 (fun r6 σ5 =>
      (r6 = 0 →
        ∀ x8 : Int, x8 = zOr y1 0 → I4 x8 (y2 + 1) σ5 ∧ zR (y2 + 1) ∧ μ4 x8 (y2 + 1) σ5 < μ4 y1 y2 σ3) ∧ (r6 ≠ 0 →
        ∀ x11 : Int, x11 = zOr y1 (zShl 1 y2) → I4 x11 (y2 + 1) σ5 ∧ zR (y2 + 1) ∧ μ4 x11 (y2 + 1) σ5 < μ4 y1 y2 σ3)) σ3)
abbrev rm_L_stepBits : Room := { frames := 3, cells := 0, slots := 0, locals := 68 }
set_option maxRecDepth 20000 in
set_option maxHeartbeats 4000000 in
theorem s_L_stepBits {Ω : zO} {ad : Nat → Nat} {place : Int} {K : Int → zS → Prop} {σ : zS} (hplace : zR place) (h : q_L_stepBits place K σ) : zMi Ω y_L_stepBits (.code y_L_stepBits c_L_stepBits 4 (some .int)) rm_L_stepBits zLy ad [.ref (ad 3), .int (zI place)] σ K := by
  refine z_ofi (lv := [(0, .ref (ad 3)), (1, .int (zI place))]) (by decide) rfl (Nat.le_of_ble_eq_true rfl) ?_
  intro Γ Q cx rt
  unfold q_L_stepBits at h
  refine v_iconst cx d_L_stepBits_0 ?_
  refine v_istore_n (lv' := [(0, .ref (ad 3)), (1, .int (zI place)), (2, .int (zI 0))]) cx d_L_stepBits_1 rfl (by decide) rfl rfl ?_
  refine v_iconst cx d_L_stepBits_2 ?_
  refine v_istore_n (lv' := [(0, .ref (ad 3)), (1, .int (zI place)), (2, .int (zI 0)), (3, .int (zI 0))]) cx d_L_stepBits_3 rfl (by decide) rfl rfl ?_
  obtain ⟨I4, μ4, h0, h⟩ := h
  have L4 : ∀ (N4 : Nat) (y1 y2 : Int) (σ3 : zS), μ4 y1 y2 σ3 < N4 → I4 y1 y2 σ3 → zR y1 → zR y2 → zV Ω Γ rm_L_stepBits 4 Q 0 0 zLy ad σ3 4 [(0, .ref (ad 3)), (1, .int (zI place)), (2, .int (zI y1)), (3, .int (zI y2))] [] := by
    intro N4
    induction N4 with
    | zero => intro y1 y2 σ3 hm; exact absurd hm (Nat.not_lt_zero _)
    | succ N4 ih4 =>
      intro y1 y2 σ3 hmm4 hI hy1 hy2
      replace h := h y1 y2 σ3 hI hy1 hy2
      refine v_iload_n cx 3 d_L_stepBits_4 rfl rfl ?_
      refine v_bipush cx (by decide) d_L_stepBits_5 ?_
      refine v_icmp_ge cx 35 d_L_stepBits_7 (by decide) hy2 ⟨by decide, by decide⟩ (fun c4 => ?_) (fun c4 => ?_)
      · replace h := h.1 c4
        refine v_iload_n cx 2 d_L_stepBits_35 rfl rfl ?_
        exact rt _ _ _ _ _ _ (Nat.le_of_ble_eq_true rfl) (Nat.le_of_ble_eq_true rfl) d_L_stepBits_36 hy1 h
      · replace h := h.2 c4
        refine v_iload_n cx 2 d_L_stepBits_10 rfl rfl ?_
        refine v_aload_n cx 0 d_L_stepBits_11 rfl rfl ?_
        refine v_iload_n cx 1 d_L_stepBits_12 rfl rfl ?_
        refine v_iload_n cx 3 d_L_stepBits_13 rfl rfl ?_
        refine v_callVz0 (st := [.int (zI y1)]) cx (s_L_canStep hplace hy2 h) yk_L_canStep lk_L_101 zl_3 rfl rfl rfl (Nat.le_of_ble_eq_true rfl) ⟨Nat.le_of_ble_eq_true rfl, Nat.le_of_ble_eq_true rfl⟩ ⟨rfl, rfl⟩ ⟨(Nat.le_of_ble_eq_true rfl), (Nat.le_of_ble_eq_true rfl)⟩ d_L_stepBits_14 (fun r6 σ5 hr6 h => ?_)
        refine v_if_eq cx 26 d_L_stepBits_17 (by decide) (zR_b hr6) (fun c7 => ?_) (fun c7 => ?_)
        · replace h := h.1 c7
          refine v_iconst cx d_L_stepBits_26 ?_
          refine v_ior cx d_L_stepBits_27 ?_
          refine v_nm (fun x8 ex8 => ?_)
          replace h := h x8 ex8
          have hx8 : zR x8 := by rw [ex8]; exact (zR_or _ _)
          refine v_istore_n (lv' := [(0, .ref (ad 3)), (1, .int (zI place)), (2, .int (zI x8)), (3, .int (zI y2))]) cx d_L_stepBits_28 rfl (by decide) rfl rfl ?_
          refine v_iinc (lv' := [(0, .ref (ad 3)), (1, .int (zI place)), (2, .int (zI x8)), (3, .int (zI (y2 + 1)))]) cx 3 d_L_stepBits_29 rfl (by decide) rfl rfl ?_
          refine v_goto cx 4 d_L_stepBits_32 (by decide) ?_
          obtain ⟨hI2, hz10, hm2⟩ := h
          exact ih4 _ _ _ (Nat.lt_of_lt_of_le hm2 (Nat.le_of_lt_succ hmm4)) hI2 hx8 hz10
        · replace h := h.2 c7
          refine v_iconst cx d_L_stepBits_20 ?_
          refine v_iload_n cx 3 d_L_stepBits_21 rfl rfl ?_
          refine v_ishl cx d_L_stepBits_22 ?_
          refine v_goto cx 27 d_L_stepBits_23 (by decide) ?_
          refine v_ior cx d_L_stepBits_27 ?_
          refine v_nm (fun x11 ex11 => ?_)
          replace h := h x11 ex11
          have hx11 : zR x11 := by rw [ex11]; exact (zR_or _ _)
          refine v_istore_n (lv' := [(0, .ref (ad 3)), (1, .int (zI place)), (2, .int (zI x11)), (3, .int (zI y2))]) cx d_L_stepBits_28 rfl (by decide) rfl rfl ?_
          refine v_iinc (lv' := [(0, .ref (ad 3)), (1, .int (zI place)), (2, .int (zI x11)), (3, .int (zI (y2 + 1)))]) cx 3 d_L_stepBits_29 rfl (by decide) rfl rfl ?_
          refine v_goto cx 4 d_L_stepBits_32 (by decide) ?_
          obtain ⟨hI2, hz13, hm2⟩ := h
          exact ih4 _ _ _ (Nat.lt_of_lt_of_le hm2 (Nat.le_of_lt_succ hmm4)) hI2 hx11 hz13
  exact L4 _ _ _ _ (Nat.lt_succ_self _) h0 ⟨by decide, by decide⟩ ⟨by decide, by decide⟩
def q_L_isFlat (place : Int) (K : Int → zS → Prop) (σ : zS) : Prop :=
  ∃ (I2 : Int → zS → Prop) (μ2 : Int → zS → Nat), (I2 0 σ) ∧ ∀ (y1 : Int) (σ2 : zS), I2 y1 σ2 → zR y1 → 
  (8 ≤ y1 →
    K 1 σ2) ∧ (y1 < 8 →
    q_L_besideOf place y1 (fun r5 σ4 =>
      (r5 = (-1) →
        I2 (y1 + 1) σ4 ∧ zR (y1 + 1) ∧ μ2 (y1 + 1) σ4 < μ2 y1 σ2) ∧ (r5 ≠ (-1) →
        q_L_differ place r5 (fun r10 σ9 =>
          q_L_value 2 (fun r12 σ11 =>
            (r10 ≤ r12 →
              I2 (y1 + 1) σ11 ∧ zR (y1 + 1) ∧ μ2 (y1 + 1) σ11 < μ2 y1 σ2) ∧ (r12 < r10 →
              K 0 σ11)) σ9) σ4)) σ2)
abbrev rm_L_isFlat : Room := { frames := 1, cells := 0, slots := 0, locals := 23 }
set_option maxRecDepth 20000 in
set_option maxHeartbeats 4000000 in
theorem s_L_isFlat {Ω : zO} {ad : Nat → Nat} {place : Int} {K : Int → zS → Prop} {σ : zS} (hplace : zR place) (h : q_L_isFlat place K σ) : zMz Ω y_L_isFlat (.code y_L_isFlat c_L_isFlat 4 (some .boolean)) rm_L_isFlat zLy ad [.ref (ad 3), .int (zI place)] σ K := by
  refine z_ofz (lv := [(0, .ref (ad 3)), (1, .int (zI place))]) (by decide) rfl (Nat.le_of_ble_eq_true rfl) ?_
  intro Γ Q cx rt
  unfold q_L_isFlat at h
  refine v_iconst cx d_L_isFlat_0 ?_
  refine v_istore_n (lv' := [(0, .ref (ad 3)), (1, .int (zI place)), (2, .int (zI 0))]) cx d_L_isFlat_1 rfl (by decide) rfl rfl ?_
  obtain ⟨I2, μ2, h0, h⟩ := h
  have L2 : ∀ (N2 : Nat) (y1 : Int) (σ2 : zS), μ2 y1 σ2 < N2 → I2 y1 σ2 → zR y1 → zV Ω Γ rm_L_isFlat 4 Q 0 0 zLy ad σ2 2 [(0, .ref (ad 3)), (1, .int (zI place)), (2, .int (zI y1))] [] := by
    intro N2
    induction N2 with
    | zero => intro y1 σ2 hm; exact absurd hm (Nat.not_lt_zero _)
    | succ N2 ih2 =>
      intro y1 σ2 hmm2 hI hy1
      replace h := h y1 σ2 hI hy1
      refine v_iload_n cx 2 d_L_isFlat_2 rfl rfl ?_
      refine v_bipush cx (by decide) d_L_isFlat_3 ?_
      refine v_icmp_ge cx 42 d_L_isFlat_5 (by decide) hy1 ⟨by decide, by decide⟩ (fun c3 => ?_) (fun c3 => ?_)
      · replace h := h.1 c3
        refine v_iconst cx d_L_isFlat_42 ?_
        exact rt _ _ _ _ _ _ (Nat.le_of_ble_eq_true rfl) (Nat.le_of_ble_eq_true rfl) d_L_isFlat_43 (Or.inr rfl) h
      · replace h := h.2 c3
        refine v_aload_n cx 0 d_L_isFlat_8 rfl rfl ?_
        refine v_iload_n cx 1 d_L_isFlat_9 rfl rfl ?_
        refine v_iload_n cx 2 d_L_isFlat_10 rfl rfl ?_
        refine v_callVi0 (st := []) cx (s_L_besideOf hplace hy1 h) yk_L_besideOf lk_L_78 zl_3 rfl rfl rfl (Nat.le_of_ble_eq_true rfl) ⟨Nat.le_of_ble_eq_true rfl, Nat.le_of_ble_eq_true rfl⟩ ⟨rfl, rfl⟩ ⟨(Nat.le_of_ble_eq_true rfl), (Nat.le_of_ble_eq_true rfl)⟩ d_L_isFlat_11 (fun r5 σ4 hr5 h => ?_)
        refine v_istore_n (lv' := [(0, .ref (ad 3)), (1, .int (zI place)), (2, .int (zI y1)), (3, .int (zI r5))]) cx d_L_isFlat_14 rfl (by decide) rfl rfl ?_
        refine v_iload_n cx 3 d_L_isFlat_15 rfl rfl ?_
        refine v_iconst cx d_L_isFlat_16 ?_
        refine v_icmp_eq cx 36 d_L_isFlat_17 (by decide) hr5 ⟨by decide, by decide⟩ (fun c6 => ?_) (fun c6 => ?_)
        · replace h := h.1 c6
          refine v_iinc (lv' := [(0, .ref (ad 3)), (1, .int (zI place)), (2, .int (zI (y1 + 1))), (3, .int (zI r5))]) cx 2 d_L_isFlat_36 rfl (by decide) rfl rfl ?_
          refine v_goto cx 2 d_L_isFlat_39 (by decide) ?_
          refine v_sb (lv' := [(0, .ref (ad 3)), (1, .int (zI place)), (2, .int (zI (y1 + 1)))]) [0, 1, 2] rfl ?_
          obtain ⟨hI2, hz8, hm2⟩ := h
          exact ih2 _ _ (Nat.lt_of_lt_of_le hm2 (Nat.le_of_lt_succ hmm2)) hI2 hz8
        · replace h := h.2 c6
          refine v_aload_n cx 0 d_L_isFlat_20 rfl rfl ?_
          refine v_iload_n cx 1 d_L_isFlat_21 rfl rfl ?_
          refine v_iload_n cx 3 d_L_isFlat_22 rfl rfl ?_
          refine v_callVi0 (st := []) cx (s_L_differ hplace hr5 h) yk_L_differ lk_L_84 zl_3 rfl rfl rfl (Nat.le_of_ble_eq_true rfl) ⟨Nat.le_of_ble_eq_true rfl, Nat.le_of_ble_eq_true rfl⟩ ⟨rfl, rfl⟩ ⟨(Nat.le_of_ble_eq_true rfl), (Nat.le_of_ble_eq_true rfl)⟩ d_L_isFlat_23 (fun r10 σ9 hr10 h => ?_)
          refine v_aload_n cx 0 d_L_isFlat_26 rfl rfl ?_
          refine v_iconst cx d_L_isFlat_27 ?_
          refine v_callVi0 (st := [.int (zI r10)]) cx (s_L_value ⟨by decide, by decide⟩ h) yk_L_value lk_L_94 zl_3 rfl rfl rfl (Nat.le_of_ble_eq_true rfl) ⟨Nat.le_of_ble_eq_true rfl, Nat.le_of_ble_eq_true rfl⟩ ⟨rfl, rfl⟩ ⟨(Nat.le_of_ble_eq_true rfl), (Nat.le_of_ble_eq_true rfl)⟩ d_L_isFlat_28 (fun r12 σ11 hr12 h => ?_)
          refine v_icmp_le cx 36 d_L_isFlat_31 (by decide) hr10 hr12 (fun c13 => ?_) (fun c13 => ?_)
          · replace h := h.1 c13
            refine v_iinc (lv' := [(0, .ref (ad 3)), (1, .int (zI place)), (2, .int (zI (y1 + 1))), (3, .int (zI r5))]) cx 2 d_L_isFlat_36 rfl (by decide) rfl rfl ?_
            refine v_goto cx 2 d_L_isFlat_39 (by decide) ?_
            refine v_sb (lv' := [(0, .ref (ad 3)), (1, .int (zI place)), (2, .int (zI (y1 + 1)))]) [0, 1, 2] rfl ?_
            obtain ⟨hI2, hz15, hm2⟩ := h
            exact ih2 _ _ (Nat.lt_of_lt_of_le hm2 (Nat.le_of_lt_succ hmm2)) hI2 hz15
          · replace h := h.2 c13
            refine v_iconst cx d_L_isFlat_34 ?_
            exact rt _ _ _ _ _ _ (Nat.le_of_ble_eq_true rfl) (Nat.le_of_ble_eq_true rfl) d_L_isFlat_35 (Or.inl rfl) h
  exact L2 _ _ _ (Nat.lt_succ_self _) h0 ⟨by decide, by decide⟩
def q_L_stepCost (place : Int) (heading : Int) (K : Int → zS → Prop) (σ : zS) : Prop :=
  q_R_longOf heading (fun r2 σ1 =>
    q_L_value 3 (fun r4 σ3 =>
      q_L_besideOf place heading (fun r6 σ5 =>
        q_L_differ place r6 (fun r8 σ7 =>
          zR (r2 + (r4 * r8)) ∧ (K (r2 + (r4 * r8)) σ7)) σ5) σ3) σ1) σ
abbrev rm_L_stepCost : Room := { frames := 1, cells := 0, slots := 0, locals := 23 }
set_option maxRecDepth 20000 in
set_option maxHeartbeats 4000000 in
theorem s_L_stepCost {Ω : zO} {ad : Nat → Nat} {place : Int} {heading : Int} {K : Int → zS → Prop} {σ : zS} (hplace : zR place) (hheading : zR heading) (h : q_L_stepCost place heading K σ) : zMi Ω y_L_stepCost (.code y_L_stepCost c_L_stepCost 3 (some .int)) rm_L_stepCost zLy ad [.ref (ad 3), .int (zI place), .int (zI heading)] σ K := by
  refine z_ofi (lv := [(0, .ref (ad 3)), (1, .int (zI place)), (2, .int (zI heading))]) (by decide) rfl (Nat.le_of_ble_eq_true rfl) ?_
  intro Γ Q cx rt
  unfold q_L_stepCost at h
  refine v_iload_n cx 2 d_L_stepCost_0 rfl rfl ?_
  refine v_callNi0 (st := []) cx (s_R_longOf hheading h) yk_R_longOf ln_L_87 rfl rfl (Nat.le_of_ble_eq_true rfl) ⟨Nat.le_of_ble_eq_true rfl, Nat.le_of_ble_eq_true rfl⟩ ⟨rfl, rfl⟩ ⟨(Nat.le_of_ble_eq_true rfl), (Nat.le_of_ble_eq_true rfl)⟩ d_L_stepCost_1 (fun r2 σ1 hr2 h => ?_)
  refine v_aload_n cx 0 d_L_stepCost_4 rfl rfl ?_
  refine v_iconst cx d_L_stepCost_5 ?_
  refine v_callVi0 (st := [.int (zI r2)]) cx (s_L_value ⟨by decide, by decide⟩ h) yk_L_value lk_L_94 zl_3 rfl rfl rfl (Nat.le_of_ble_eq_true rfl) ⟨Nat.le_of_ble_eq_true rfl, Nat.le_of_ble_eq_true rfl⟩ ⟨rfl, rfl⟩ ⟨(Nat.le_of_ble_eq_true rfl), (Nat.le_of_ble_eq_true rfl)⟩ d_L_stepCost_6 (fun r4 σ3 hr4 h => ?_)
  refine v_aload_n cx 0 d_L_stepCost_9 rfl rfl ?_
  refine v_iload_n cx 1 d_L_stepCost_10 rfl rfl ?_
  refine v_aload_n cx 0 d_L_stepCost_11 rfl rfl ?_
  refine v_iload_n cx 1 d_L_stepCost_12 rfl rfl ?_
  refine v_iload_n cx 2 d_L_stepCost_13 rfl rfl ?_
  refine v_callVi0 (st := [.int (zI place), .ref (ad 3), .int (zI r4), .int (zI r2)]) cx (s_L_besideOf hplace hheading h) yk_L_besideOf lk_L_78 zl_3 rfl rfl rfl (Nat.le_of_ble_eq_true rfl) ⟨Nat.le_of_ble_eq_true rfl, Nat.le_of_ble_eq_true rfl⟩ ⟨rfl, rfl⟩ ⟨(Nat.le_of_ble_eq_true rfl), (Nat.le_of_ble_eq_true rfl)⟩ d_L_stepCost_14 (fun r6 σ5 hr6 h => ?_)
  refine v_callVi0 (st := [.int (zI r4), .int (zI r2)]) cx (s_L_differ hplace hr6 h) yk_L_differ lk_L_84 zl_3 rfl rfl rfl (Nat.le_of_ble_eq_true rfl) ⟨Nat.le_of_ble_eq_true rfl, Nat.le_of_ble_eq_true rfl⟩ ⟨rfl, rfl⟩ ⟨(Nat.le_of_ble_eq_true rfl), (Nat.le_of_ble_eq_true rfl)⟩ d_L_stepCost_17 (fun r8 σ7 hr8 h => ?_)
  refine v_imul cx d_L_stepCost_20 ?_
  refine v_iadd cx d_L_stepCost_21 ?_
  obtain ⟨hr9, h⟩ := h
  exact rt _ _ _ _ _ _ (Nat.le_of_ble_eq_true rfl) (Nat.le_of_ble_eq_true rfl) d_L_stepCost_22 hr9 h
def q_L_bendCost (bend : Int) (K : Int → zS → Prop) (σ : zS) : Prop :=
  q_L_value 1 (fun r2 σ1 =>
    (r2 < bend →
      q_L_value 5 (fun r5 σ4 =>
        K r5 σ4) σ1) ∧ (bend ≤ r2 →
      q_L_value 4 (fun r7 σ6 =>
        zR (r7 * bend) ∧ (K (r7 * bend) σ6)) σ1)) σ
abbrev rm_L_bendCost : Room := { frames := 1, cells := 0, slots := 0, locals := 21 }
set_option maxRecDepth 20000 in
set_option maxHeartbeats 4000000 in
theorem s_L_bendCost {Ω : zO} {ad : Nat → Nat} {bend : Int} {K : Int → zS → Prop} {σ : zS} (hbend : zR bend) (h : q_L_bendCost bend K σ) : zMi Ω y_L_bendCost (.code y_L_bendCost c_L_bendCost 2 (some .int)) rm_L_bendCost zLy ad [.ref (ad 3), .int (zI bend)] σ K := by
  refine z_ofi (lv := [(0, .ref (ad 3)), (1, .int (zI bend))]) (by decide) rfl (Nat.le_of_ble_eq_true rfl) ?_
  intro Γ Q cx rt
  unfold q_L_bendCost at h
  refine v_iload_n cx 1 d_L_bendCost_0 rfl rfl ?_
  refine v_aload_n cx 0 d_L_bendCost_1 rfl rfl ?_
  refine v_iconst cx d_L_bendCost_2 ?_
  refine v_callVi0 (st := [.int (zI bend)]) cx (s_L_value ⟨by decide, by decide⟩ h) yk_L_value lk_L_94 zl_3 rfl rfl rfl (Nat.le_of_ble_eq_true rfl) ⟨Nat.le_of_ble_eq_true rfl, Nat.le_of_ble_eq_true rfl⟩ ⟨rfl, rfl⟩ ⟨(Nat.le_of_ble_eq_true rfl), (Nat.le_of_ble_eq_true rfl)⟩ d_L_bendCost_3 (fun r2 σ1 hr2 h => ?_)
  refine v_icmp_gt cx 19 d_L_bendCost_6 (by decide) hbend hr2 (fun c3 => ?_) (fun c3 => ?_)
  · replace h := h.1 c3
    refine v_aload_n cx 0 d_L_bendCost_19 rfl rfl ?_
    refine v_iconst cx d_L_bendCost_20 ?_
    refine v_callVi0 (st := []) cx (s_L_value ⟨by decide, by decide⟩ h) yk_L_value lk_L_94 zl_3 rfl rfl rfl (Nat.le_of_ble_eq_true rfl) ⟨Nat.le_of_ble_eq_true rfl, Nat.le_of_ble_eq_true rfl⟩ ⟨rfl, rfl⟩ ⟨(Nat.le_of_ble_eq_true rfl), (Nat.le_of_ble_eq_true rfl)⟩ d_L_bendCost_21 (fun r5 σ4 hr5 h => ?_)
    exact rt _ _ _ _ _ _ (Nat.le_of_ble_eq_true rfl) (Nat.le_of_ble_eq_true rfl) d_L_bendCost_24 hr5 h
  · replace h := h.2 c3
    refine v_aload_n cx 0 d_L_bendCost_9 rfl rfl ?_
    refine v_iconst cx d_L_bendCost_10 ?_
    refine v_callVi0 (st := []) cx (s_L_value ⟨by decide, by decide⟩ h) yk_L_value lk_L_94 zl_3 rfl rfl rfl (Nat.le_of_ble_eq_true rfl) ⟨Nat.le_of_ble_eq_true rfl, Nat.le_of_ble_eq_true rfl⟩ ⟨rfl, rfl⟩ ⟨(Nat.le_of_ble_eq_true rfl), (Nat.le_of_ble_eq_true rfl)⟩ d_L_bendCost_11 (fun r7 σ6 hr7 h => ?_)
    refine v_iload_n cx 1 d_L_bendCost_14 rfl rfl ?_
    refine v_imul cx d_L_bendCost_15 ?_
    refine v_goto cx 24 d_L_bendCost_16 (by decide) ?_
    obtain ⟨hr8, h⟩ := h
    exact rt _ _ _ _ _ _ (Nat.le_of_ble_eq_true rfl) (Nat.le_of_ble_eq_true rfl) d_L_bendCost_24 hr8 h
def q_P_size (K : Int → zS → Prop) (σ : zS) : Prop :=
  K (σ 9 2) σ
abbrev rm_P_size : Room := { frames := 0, cells := 0, slots := 0, locals := 0 }
set_option maxRecDepth 20000 in
set_option maxHeartbeats 4000000 in
theorem s_P_size {Ω : zO} {ad : Nat → Nat} {K : Int → zS → Prop} {σ : zS}  (h : q_P_size K σ) : zMi Ω y_P_size (.code y_P_size c_P_size 1 (some .int)) rm_P_size zLy ad [.ref (ad 9)] σ K := by
  refine z_ofi (lv := [(0, .ref (ad 9))]) (by decide) rfl (Nat.le_of_ble_eq_true rfl) ?_
  intro Γ Q cx rt
  unfold q_P_size at h
  refine v_aload_n cx 0 d_P_size_0 rfl rfl ?_
  refine gf_P_19 cx d_P_size_1 (fun hl1 => ?_)
  exact rt _ _ _ _ _ _ (Nat.le_of_ble_eq_true rfl) (Nat.le_of_ble_eq_true rfl) d_P_size_4 hl1 h
def q_P_forget (K : zS → Prop) (σ : zS) : Prop :=
  ∀ σ1 : zS, σ1 = zU σ 9 2 0 → K σ1
abbrev rm_P_forget : Room := { frames := 0, cells := 0, slots := 0, locals := 0 }
set_option maxRecDepth 20000 in
set_option maxHeartbeats 4000000 in
theorem s_P_forget {Ω : zO} {ad : Nat → Nat} {K : zS → Prop} {σ : zS}  (h : q_P_forget K σ) : zMv Ω y_P_forget (.code y_P_forget c_P_forget 1 none) rm_P_forget zLy ad [.ref (ad 9)] σ K := by
  refine z_ofv (lv := [(0, .ref (ad 9))]) (by decide) rfl (Nat.le_of_ble_eq_true rfl) ?_
  intro Γ Q cx rt
  unfold q_P_forget at h
  refine v_aload_n cx 0 d_P_forget_0 rfl rfl ?_
  refine v_iconst cx d_P_forget_1 ?_
  refine pf_P_19 cx ⟨by decide, by decide⟩ d_P_forget_2 ?_
  refine v_ns (fun σ1 eσ1 => ?_)
  replace h := h σ1 eσ1
  exact rt _ _ _ _ _ (Nat.le_of_ble_eq_true rfl) (Nat.le_of_ble_eq_true rfl) d_P_forget_5 h
def q_P_room (K : Int → zS → Prop) (σ : zS) : Prop :=
  zR ((zAnd ((σ 9 1) + (σ 9 2)) 7) * 499) ∧ (K ((zAnd ((σ 9 1) + (σ 9 2)) 7) * 499) σ)
abbrev rm_P_room : Room := { frames := 0, cells := 0, slots := 0, locals := 0 }
set_option maxRecDepth 20000 in
set_option maxHeartbeats 4000000 in
theorem s_P_room {Ω : zO} {ad : Nat → Nat} {K : Int → zS → Prop} {σ : zS}  (h : q_P_room K σ) : zMi Ω y_P_room (.code y_P_room c_P_room 1 (some .int)) rm_P_room zLy ad [.ref (ad 9)] σ K := by
  refine z_ofi (lv := [(0, .ref (ad 9))]) (by decide) rfl (Nat.le_of_ble_eq_true rfl) ?_
  intro Γ Q cx rt
  unfold q_P_room at h
  refine v_aload_n cx 0 d_P_room_0 rfl rfl ?_
  refine gf_P_15 cx d_P_room_1 (fun hl1 => ?_)
  refine v_aload_n cx 0 d_P_room_4 rfl rfl ?_
  refine gf_P_19 cx d_P_room_5 (fun hl2 => ?_)
  refine v_iadd cx d_P_room_8 ?_
  refine v_bipush cx (by decide) d_P_room_9 ?_
  refine v_iand cx d_P_room_11 ?_
  refine v_sipush cx (by decide) d_P_room_12 ?_
  refine v_imul cx d_P_room_15 ?_
  obtain ⟨hr3, h⟩ := h
  exact rt _ _ _ _ _ _ (Nat.le_of_ble_eq_true rfl) (Nat.le_of_ble_eq_true rfl) d_P_room_16 hr3 h
def q_P_remember (K : zS → Prop) (σ : zS) : Prop :=
  q_P_room (fun r2 σ1 =>
    q_L_copyTo_10 r2 (fun σ3 =>
      (8 ≤ (σ3 9 2) →
        ∀ σ7 : zS, σ7 = zU σ3 9 1 (zAnd ((σ3 9 1) + 1) 7) → K σ7) ∧ ((σ3 9 2) < 8 →
        zR ((σ3 9 2) + 1) ∧ (∀ σ10 : zS, σ10 = zU σ3 9 2 ((σ3 9 2) + 1) → K σ10))) σ1) σ
abbrev rm_P_remember : Room := { frames := 2, cells := 0, slots := 0, locals := 82 }
set_option maxRecDepth 20000 in
set_option maxHeartbeats 4000000 in
theorem s_P_remember {Ω : zO} {ad : Nat → Nat} {K : zS → Prop} {σ : zS}  (h : q_P_remember K σ) : zMv Ω y_P_remember (.code y_P_remember c_P_remember 2 none) rm_P_remember zLy ad [.ref (ad 9), .ref (ad 3)] σ K := by
  refine z_ofv (lv := [(0, .ref (ad 9)), (1, .ref (ad 3))]) (by decide) rfl (Nat.le_of_ble_eq_true rfl) ?_
  intro Γ Q cx rt
  unfold q_P_remember at h
  refine v_aload_n cx 1 d_P_remember_0 rfl rfl ?_
  refine v_aload_n cx 0 d_P_remember_1 rfl rfl ?_
  refine gf_P_11 cx d_P_remember_2 ?_
  refine v_aload_n cx 0 d_P_remember_5 rfl rfl ?_
  refine v_callVi0 (st := [.ref (ad 10), .ref (ad 3)]) cx (s_P_room  h) yk_P_room lk_P_22 zl_9 rfl rfl rfl (Nat.le_of_ble_eq_true rfl) ⟨Nat.le_of_ble_eq_true rfl, Nat.le_of_ble_eq_true rfl⟩ ⟨rfl, rfl⟩ ⟨(Nat.le_of_ble_eq_true rfl), (Nat.le_of_ble_eq_true rfl)⟩ d_P_remember_6 (fun r2 σ1 hr2 h => ?_)
  refine v_callVv0 (st := []) cx (s_L_copyTo_10 hr2 h) yk_L_copyTo lk_P_26 zl_3 rfl rfl rfl (Nat.le_of_ble_eq_true rfl) ⟨Nat.le_of_ble_eq_true rfl, Nat.le_of_ble_eq_true rfl⟩ ⟨rfl, rfl⟩ ⟨(Nat.le_of_ble_eq_true rfl), (Nat.le_of_ble_eq_true rfl)⟩ d_P_remember_9 (fun σ3 h => ?_)
  refine v_aload_n cx 0 d_P_remember_12 rfl rfl ?_
  refine gf_P_19 cx d_P_remember_13 (fun hl4 => ?_)
  refine v_bipush cx (by decide) d_P_remember_16 ?_
  refine v_icmp_ge cx 34 d_P_remember_18 (by decide) hl4 ⟨by decide, by decide⟩ (fun c5 => ?_) (fun c5 => ?_)
  · replace h := h.1 c5
    refine v_aload_n cx 0 d_P_remember_34 rfl rfl ?_
    refine v_aload_n cx 0 d_P_remember_35 rfl rfl ?_
    refine gf_P_15 cx d_P_remember_36 (fun hl6 => ?_)
    refine v_iconst cx d_P_remember_39 ?_
    refine v_iadd cx d_P_remember_40 ?_
    refine v_bipush cx (by decide) d_P_remember_41 ?_
    refine v_iand cx d_P_remember_43 ?_
    refine pf_P_15 cx (zR_and _ _) d_P_remember_44 ?_
    refine v_ns (fun σ7 eσ7 => ?_)
    replace h := h σ7 eσ7
    exact rt _ _ _ _ _ (Nat.le_of_ble_eq_true rfl) (Nat.le_of_ble_eq_true rfl) d_P_remember_47 h
  · replace h := h.2 c5
    refine v_aload_n cx 0 d_P_remember_21 rfl rfl ?_
    refine v_dup cx d_P_remember_22 rfl ?_
    refine gf_P_19 cx d_P_remember_23 (fun hl8 => ?_)
    refine v_iconst cx d_P_remember_26 ?_
    refine v_iadd cx d_P_remember_27 ?_
    obtain ⟨hr9, h⟩ := h
    refine pf_P_19 cx hr9 d_P_remember_28 ?_
    refine v_ns (fun σ10 eσ10 => ?_)
    replace h := h σ10 eσ10
    refine v_goto cx 47 d_P_remember_31 (by decide) ?_
    exact rt _ _ _ _ _ (Nat.le_of_ble_eq_true rfl) (Nat.le_of_ble_eq_true rfl) d_P_remember_47 h
def q_P_takeBack (K : zS → Prop) (σ : zS) : Prop :=
  ((σ 9 2) ≤ 0 →
    K σ) ∧ (0 < (σ 9 2) →
    zR ((σ 9 2) - 1) ∧ (∀ σ5 : zS, σ5 = zU σ 9 2 ((σ 9 2) - 1) → q_P_room (fun r7 σ6 =>
        q_L_take_10 r7 (fun σ8 =>
          K σ8) σ6) σ5))
abbrev rm_P_takeBack : Room := { frames := 4, cells := 0, slots := 0, locals := 90 }
set_option maxRecDepth 20000 in
set_option maxHeartbeats 4000000 in
theorem s_P_takeBack {Ω : zO} {ad : Nat → Nat} {K : zS → Prop} {σ : zS}  (h : q_P_takeBack K σ) : zMv Ω y_P_takeBack (.code y_P_takeBack c_P_takeBack 2 none) rm_P_takeBack zLy ad [.ref (ad 9), .ref (ad 3)] σ K := by
  refine z_ofv (lv := [(0, .ref (ad 9)), (1, .ref (ad 3))]) (by decide) rfl (Nat.le_of_ble_eq_true rfl) ?_
  intro Γ Q cx rt
  unfold q_P_takeBack at h
  refine v_aload_n cx 0 d_P_takeBack_0 rfl rfl ?_
  refine gf_P_19 cx d_P_takeBack_1 (fun hl1 => ?_)
  refine v_if_le cx 29 d_P_takeBack_4 (by decide) hl1 (fun c2 => ?_) (fun c2 => ?_)
  · replace h := h.1 c2
    exact rt _ _ _ _ _ (Nat.le_of_ble_eq_true rfl) (Nat.le_of_ble_eq_true rfl) d_P_takeBack_29 h
  · replace h := h.2 c2
    refine v_aload_n cx 0 d_P_takeBack_7 rfl rfl ?_
    refine v_dup cx d_P_takeBack_8 rfl ?_
    refine gf_P_19 cx d_P_takeBack_9 (fun hl3 => ?_)
    refine v_iconst cx d_P_takeBack_12 ?_
    refine v_isub cx d_P_takeBack_13 ?_
    obtain ⟨hr4, h⟩ := h
    refine pf_P_19 cx hr4 d_P_takeBack_14 ?_
    refine v_ns (fun σ5 eσ5 => ?_)
    replace h := h σ5 eσ5
    refine v_aload_n cx 1 d_P_takeBack_17 rfl rfl ?_
    refine v_aload_n cx 0 d_P_takeBack_18 rfl rfl ?_
    refine gf_P_11 cx d_P_takeBack_19 ?_
    refine v_aload_n cx 0 d_P_takeBack_22 rfl rfl ?_
    refine v_callVi0 (st := [.ref (ad 10), .ref (ad 3)]) cx (s_P_room  h) yk_P_room lk_P_22 zl_9 rfl rfl rfl (Nat.le_of_ble_eq_true rfl) ⟨Nat.le_of_ble_eq_true rfl, Nat.le_of_ble_eq_true rfl⟩ ⟨rfl, rfl⟩ ⟨(Nat.le_of_ble_eq_true rfl), (Nat.le_of_ble_eq_true rfl)⟩ d_P_takeBack_23 (fun r7 σ6 hr7 h => ?_)
    refine v_callVv0 (st := []) cx (s_L_take_10 hr7 h) yk_L_take lk_P_30 zl_3 rfl rfl rfl (Nat.le_of_ble_eq_true rfl) ⟨Nat.le_of_ble_eq_true rfl, Nat.le_of_ble_eq_true rfl⟩ ⟨rfl, rfl⟩ ⟨(Nat.le_of_ble_eq_true rfl), (Nat.le_of_ble_eq_true rfl)⟩ d_P_takeBack_26 (fun σ8 h => ?_)
    exact rt _ _ _ _ _ (Nat.le_of_ble_eq_true rfl) (Nat.le_of_ble_eq_true rfl) d_P_takeBack_29 h
def q_S_runOf (place : Int) (K : Int → zS → Prop) (σ : zS) : Prop :=
  q_L_height place (fun r2 σ1 =>
    ∃ (I14 : Int → Int → Int → zS → Prop) (μ14 : Int → Int → Int → zS → Nat), (I14 (-1) r2 0 σ1) ∧ ∀ (y3 y4 y5 : Int) (σ6 : zS), I14 y3 y4 y5 σ6 → zR y3 → zR y4 → zR y5 → 
    (8 ≤ y5 →
      K y3 σ6) ∧ (y5 < 8 →
      q_L_besideOf place y5 (fun r9 σ8 =>
        (r9 = (-1) →
          I14 y3 y4 (y5 + 1) σ8 ∧ zR (y5 + 1) ∧ μ14 y3 y4 (y5 + 1) σ8 < μ14 y3 y4 y5 σ6) ∧ (r9 ≠ (-1) →
          q_L_height r9 (fun r14 σ13 =>
            (y4 ≤ r14 →
              I14 y3 y4 (y5 + 1) σ13 ∧ zR (y5 + 1) ∧ μ14 y3 y4 (y5 + 1) σ13 < μ14 y3 y4 y5 σ6) ∧ (r14 < y4 →
              q_L_height r9 (fun r19 σ18 =>
                I14 r9 r19 (y5 + 1) σ18 ∧ zR (y5 + 1) ∧ μ14 r9 r19 (y5 + 1) σ18 < μ14 y3 y4 y5 σ6) σ13)) σ8)) σ6)) σ
abbrev rm_S_runOf : Room := { frames := 1, cells := 0, slots := 0, locals := 22 }
set_option maxRecDepth 20000 in
set_option maxHeartbeats 4000000 in
theorem s_S_runOf {Ω : zO} {ad : Nat → Nat} {place : Int} {K : Int → zS → Prop} {σ : zS} (hplace : zR place) (h : q_S_runOf place K σ) : zMi Ω y_S_runOf (.code y_S_runOf c_S_runOf 6 (some .int)) rm_S_runOf zLy ad [.ref (ad 11), .int (zI place)] σ K := by
  refine z_ofi (lv := [(0, .ref (ad 11)), (1, .int (zI place))]) (by decide) rfl (Nat.le_of_ble_eq_true rfl) ?_
  intro Γ Q cx rt
  unfold q_S_runOf at h
  refine v_iconst cx d_S_runOf_0 ?_
  refine v_istore_n (lv' := [(0, .ref (ad 11)), (1, .int (zI place)), (2, .int (zI (-1)))]) cx d_S_runOf_1 rfl (by decide) rfl rfl ?_
  refine v_aload_n cx 0 d_S_runOf_2 rfl rfl ?_
  refine gf_S_9 cx d_S_runOf_3 ?_
  refine v_iload_n cx 1 d_S_runOf_6 rfl rfl ?_
  refine v_callVi0 (st := []) cx (s_L_height hplace h) yk_L_height lk_S_25 zl_3 rfl rfl rfl (Nat.le_of_ble_eq_true rfl) ⟨Nat.le_of_ble_eq_true rfl, Nat.le_of_ble_eq_true rfl⟩ ⟨rfl, rfl⟩ ⟨(Nat.le_of_ble_eq_true rfl), (Nat.le_of_ble_eq_true rfl)⟩ d_S_runOf_7 (fun r2 σ1 hr2 h => ?_)
  refine v_istore_n (lv' := [(0, .ref (ad 11)), (1, .int (zI place)), (2, .int (zI (-1))), (3, .int (zI r2))]) cx d_S_runOf_10 rfl (by decide) rfl rfl ?_
  refine v_iconst cx d_S_runOf_11 ?_
  refine v_istore (lv' := [(0, .ref (ad 11)), (1, .int (zI place)), (2, .int (zI (-1))), (3, .int (zI r2)), (4, .int (zI 0))]) cx d_S_runOf_12 (by decide) rfl rfl ?_
  obtain ⟨I14, μ14, h0, h⟩ := h
  have L14 : ∀ (N14 : Nat) (y3 y4 y5 : Int) (σ6 : zS), μ14 y3 y4 y5 σ6 < N14 → I14 y3 y4 y5 σ6 → zR y3 → zR y4 → zR y5 → zV Ω Γ rm_S_runOf 6 Q 0 0 zLy ad σ6 14 [(0, .ref (ad 11)), (1, .int (zI place)), (2, .int (zI y3)), (3, .int (zI y4)), (4, .int (zI y5))] [] := by
    intro N14
    induction N14 with
    | zero => intro y3 y4 y5 σ6 hm; exact absurd hm (Nat.not_lt_zero _)
    | succ N14 ih14 =>
      intro y3 y4 y5 σ6 hmm14 hI hy3 hy4 hy5
      replace h := h y3 y4 y5 σ6 hI hy3 hy4 hy5
      refine v_iload cx 4 d_S_runOf_14 rfl ?_
      refine v_bipush cx (by decide) d_S_runOf_16 ?_
      refine v_icmp_ge cx 71 d_S_runOf_18 (by decide) hy5 ⟨by decide, by decide⟩ (fun c7 => ?_) (fun c7 => ?_)
      · replace h := h.1 c7
        refine v_iload_n cx 2 d_S_runOf_71 rfl rfl ?_
        exact rt _ _ _ _ _ _ (Nat.le_of_ble_eq_true rfl) (Nat.le_of_ble_eq_true rfl) d_S_runOf_72 hy3 h
      · replace h := h.2 c7
        refine v_aload_n cx 0 d_S_runOf_21 rfl rfl ?_
        refine gf_S_9 cx d_S_runOf_22 ?_
        refine v_iload_n cx 1 d_S_runOf_25 rfl rfl ?_
        refine v_iload cx 4 d_S_runOf_26 rfl ?_
        refine v_callVi0 (st := []) cx (s_L_besideOf hplace hy5 h) yk_L_besideOf lk_S_31 zl_3 rfl rfl rfl (Nat.le_of_ble_eq_true rfl) ⟨Nat.le_of_ble_eq_true rfl, Nat.le_of_ble_eq_true rfl⟩ ⟨rfl, rfl⟩ ⟨(Nat.le_of_ble_eq_true rfl), (Nat.le_of_ble_eq_true rfl)⟩ d_S_runOf_28 (fun r9 σ8 hr9 h => ?_)
        refine v_istore (lv' := [(0, .ref (ad 11)), (1, .int (zI place)), (2, .int (zI y3)), (3, .int (zI y4)), (4, .int (zI y5)), (5, .int (zI r9))]) cx d_S_runOf_31 (by decide) rfl rfl ?_
        refine v_iload cx 5 d_S_runOf_33 rfl ?_
        refine v_iconst cx d_S_runOf_35 ?_
        refine v_icmp_eq cx 65 d_S_runOf_36 (by decide) hr9 ⟨by decide, by decide⟩ (fun c10 => ?_) (fun c10 => ?_)
        · replace h := h.1 c10
          refine v_iinc (lv' := [(0, .ref (ad 11)), (1, .int (zI place)), (2, .int (zI y3)), (3, .int (zI y4)), (4, .int (zI (y5 + 1))), (5, .int (zI r9))]) cx 4 d_S_runOf_65 rfl (by decide) rfl rfl ?_
          refine v_goto cx 14 d_S_runOf_68 (by decide) ?_
          refine v_sb (lv' := [(0, .ref (ad 11)), (1, .int (zI place)), (2, .int (zI y3)), (3, .int (zI y4)), (4, .int (zI (y5 + 1)))]) [0, 1, 2, 3, 4] rfl ?_
          obtain ⟨hI2, hz12, hm2⟩ := h
          exact ih14 _ _ _ _ (Nat.lt_of_lt_of_le hm2 (Nat.le_of_lt_succ hmm14)) hI2 hy3 hy4 hz12
        · replace h := h.2 c10
          refine v_aload_n cx 0 d_S_runOf_39 rfl rfl ?_
          refine gf_S_9 cx d_S_runOf_40 ?_
          refine v_iload cx 5 d_S_runOf_43 rfl ?_
          refine v_callVi0 (st := []) cx (s_L_height hr9 h) yk_L_height lk_S_25 zl_3 rfl rfl rfl (Nat.le_of_ble_eq_true rfl) ⟨Nat.le_of_ble_eq_true rfl, Nat.le_of_ble_eq_true rfl⟩ ⟨rfl, rfl⟩ ⟨(Nat.le_of_ble_eq_true rfl), (Nat.le_of_ble_eq_true rfl)⟩ d_S_runOf_45 (fun r14 σ13 hr14 h => ?_)
          refine v_iload_n cx 3 d_S_runOf_48 rfl rfl ?_
          refine v_icmp_ge cx 65 d_S_runOf_49 (by decide) hr14 hy4 (fun c15 => ?_) (fun c15 => ?_)
          · replace h := h.1 c15
            refine v_iinc (lv' := [(0, .ref (ad 11)), (1, .int (zI place)), (2, .int (zI y3)), (3, .int (zI y4)), (4, .int (zI (y5 + 1))), (5, .int (zI r9))]) cx 4 d_S_runOf_65 rfl (by decide) rfl rfl ?_
            refine v_goto cx 14 d_S_runOf_68 (by decide) ?_
            refine v_sb (lv' := [(0, .ref (ad 11)), (1, .int (zI place)), (2, .int (zI y3)), (3, .int (zI y4)), (4, .int (zI (y5 + 1)))]) [0, 1, 2, 3, 4] rfl ?_
            obtain ⟨hI2, hz17, hm2⟩ := h
            exact ih14 _ _ _ _ (Nat.lt_of_lt_of_le hm2 (Nat.le_of_lt_succ hmm14)) hI2 hy3 hy4 hz17
          · replace h := h.2 c15
            refine v_iload cx 5 d_S_runOf_52 rfl ?_
            refine v_istore_n (lv' := [(0, .ref (ad 11)), (1, .int (zI place)), (2, .int (zI r9)), (3, .int (zI y4)), (4, .int (zI y5)), (5, .int (zI r9))]) cx d_S_runOf_54 rfl (by decide) rfl rfl ?_
            refine v_aload_n cx 0 d_S_runOf_55 rfl rfl ?_
            refine gf_S_9 cx d_S_runOf_56 ?_
            refine v_iload cx 5 d_S_runOf_59 rfl ?_
            refine v_callVi0 (st := []) cx (s_L_height hr9 h) yk_L_height lk_S_25 zl_3 rfl rfl rfl (Nat.le_of_ble_eq_true rfl) ⟨Nat.le_of_ble_eq_true rfl, Nat.le_of_ble_eq_true rfl⟩ ⟨rfl, rfl⟩ ⟨(Nat.le_of_ble_eq_true rfl), (Nat.le_of_ble_eq_true rfl)⟩ d_S_runOf_61 (fun r19 σ18 hr19 h => ?_)
            refine v_istore_n (lv' := [(0, .ref (ad 11)), (1, .int (zI place)), (2, .int (zI r9)), (3, .int (zI r19)), (4, .int (zI y5)), (5, .int (zI r9))]) cx d_S_runOf_64 rfl (by decide) rfl rfl ?_
            refine v_iinc (lv' := [(0, .ref (ad 11)), (1, .int (zI place)), (2, .int (zI r9)), (3, .int (zI r19)), (4, .int (zI (y5 + 1))), (5, .int (zI r9))]) cx 4 d_S_runOf_65 rfl (by decide) rfl rfl ?_
            refine v_goto cx 14 d_S_runOf_68 (by decide) ?_
            refine v_sb (lv' := [(0, .ref (ad 11)), (1, .int (zI place)), (2, .int (zI r9)), (3, .int (zI r19)), (4, .int (zI (y5 + 1)))]) [0, 1, 2, 3, 4] rfl ?_
            obtain ⟨hI2, hz21, hm2⟩ := h
            exact ih14 _ _ _ _ (Nat.lt_of_lt_of_le hm2 (Nat.le_of_lt_succ hmm14)) hI2 hr9 hr19 hz21
  exact L14 _ _ _ _ _ (Nat.lt_succ_self _) h0 ⟨by decide, by decide⟩ hr2 ⟨by decide, by decide⟩
def q_S_sinks (K : Int → zS → Prop) (σ : zS) : Prop :=
  ∃ (I4 : Int → Int → zS → Prop) (μ4 : Int → Int → zS → Nat), (I4 0 0 σ) ∧ ∀ (y1 y2 : Int) (σ3 : zS), I4 y1 y2 σ3 → zR y1 → zR y2 → 
  q_L_places (fun r5 σ4 =>
    (r5 ≤ y2 →
      K y1 σ4) ∧ (y2 < r5 →
      q_S_runOf y2 (fun r8 σ7 =>
        (r8 ≠ (-1) →
          ∀ x10 : Int, x10 = y1 + 0 → I4 x10 (y2 + 1) σ7 ∧ zR x10 ∧ zR (y2 + 1) ∧ μ4 x10 (y2 + 1) σ7 < μ4 y1 y2 σ3) ∧ (r8 = (-1) →
          ∀ x14 : Int, x14 = y1 + 1 → I4 x14 (y2 + 1) σ7 ∧ zR x14 ∧ zR (y2 + 1) ∧ μ4 x14 (y2 + 1) σ7 < μ4 y1 y2 σ3)) σ4)) σ3
abbrev rm_S_sinks : Room := { frames := 2, cells := 0, slots := 0, locals := 47 }
set_option maxRecDepth 20000 in
set_option maxHeartbeats 4000000 in
theorem s_S_sinks {Ω : zO} {ad : Nat → Nat} {K : Int → zS → Prop} {σ : zS}  (h : q_S_sinks K σ) : zMi Ω y_S_sinks (.code y_S_sinks c_S_sinks 3 (some .int)) rm_S_sinks zLy ad [.ref (ad 11)] σ K := by
  refine z_ofi (lv := [(0, .ref (ad 11))]) (by decide) rfl (Nat.le_of_ble_eq_true rfl) ?_
  intro Γ Q cx rt
  unfold q_S_sinks at h
  refine v_iconst cx d_S_sinks_0 ?_
  refine v_istore_n (lv' := [(0, .ref (ad 11)), (1, .int (zI 0))]) cx d_S_sinks_1 rfl (by decide) rfl rfl ?_
  refine v_iconst cx d_S_sinks_2 ?_
  refine v_istore_n (lv' := [(0, .ref (ad 11)), (1, .int (zI 0)), (2, .int (zI 0))]) cx d_S_sinks_3 rfl (by decide) rfl rfl ?_
  obtain ⟨I4, μ4, h0, h⟩ := h
  have L4 : ∀ (N4 : Nat) (y1 y2 : Int) (σ3 : zS), μ4 y1 y2 σ3 < N4 → I4 y1 y2 σ3 → zR y1 → zR y2 → zV Ω Γ rm_S_sinks 3 Q 0 0 zLy ad σ3 4 [(0, .ref (ad 11)), (1, .int (zI y1)), (2, .int (zI y2))] [] := by
    intro N4
    induction N4 with
    | zero => intro y1 y2 σ3 hm; exact absurd hm (Nat.not_lt_zero _)
    | succ N4 ih4 =>
      intro y1 y2 σ3 hmm4 hI hy1 hy2
      replace h := h y1 y2 σ3 hI hy1 hy2
      refine v_iload_n cx 2 d_S_sinks_4 rfl rfl ?_
      refine v_aload_n cx 0 d_S_sinks_5 rfl rfl ?_
      refine gf_S_9 cx d_S_sinks_6 ?_
      refine v_callVi0 (st := [.int (zI y2)]) cx (s_L_places  h) yk_L_places lk_S_35 zl_3 rfl rfl rfl (Nat.le_of_ble_eq_true rfl) ⟨Nat.le_of_ble_eq_true rfl, Nat.le_of_ble_eq_true rfl⟩ ⟨rfl, rfl⟩ ⟨(Nat.le_of_ble_eq_true rfl), (Nat.le_of_ble_eq_true rfl)⟩ d_S_sinks_9 (fun r5 σ4 hr5 h => ?_)
      refine v_icmp_ge cx 38 d_S_sinks_12 (by decide) hy2 hr5 (fun c6 => ?_) (fun c6 => ?_)
      · replace h := h.1 c6
        refine v_iload_n cx 1 d_S_sinks_38 rfl rfl ?_
        exact rt _ _ _ _ _ _ (Nat.le_of_ble_eq_true rfl) (Nat.le_of_ble_eq_true rfl) d_S_sinks_39 hy1 h
      · replace h := h.2 c6
        refine v_iload_n cx 1 d_S_sinks_15 rfl rfl ?_
        refine v_aload_n cx 0 d_S_sinks_16 rfl rfl ?_
        refine v_iload_n cx 2 d_S_sinks_17 rfl rfl ?_
        refine v_callVi0 (st := [.int (zI y1)]) cx (s_S_runOf hy2 h) yk_S_runOf lk_S_39 zl_11 rfl rfl rfl (Nat.le_of_ble_eq_true rfl) ⟨Nat.le_of_ble_eq_true rfl, Nat.le_of_ble_eq_true rfl⟩ ⟨rfl, rfl⟩ ⟨(Nat.le_of_ble_eq_true rfl), (Nat.le_of_ble_eq_true rfl)⟩ d_S_sinks_18 (fun r8 σ7 hr8 h => ?_)
        refine v_iconst cx d_S_sinks_21 ?_
        refine v_icmp_ne cx 29 d_S_sinks_22 (by decide) hr8 ⟨by decide, by decide⟩ (fun c9 => ?_) (fun c9 => ?_)
        · replace h := h.1 c9
          refine v_iconst cx d_S_sinks_29 ?_
          refine v_iadd cx d_S_sinks_30 ?_
          refine v_nm (fun x10 ex10 => ?_)
          replace h := h x10 ex10
          refine v_istore_n (lv' := [(0, .ref (ad 11)), (1, .int (zI x10)), (2, .int (zI y2))]) cx d_S_sinks_31 rfl (by decide) rfl rfl ?_
          refine v_iinc (lv' := [(0, .ref (ad 11)), (1, .int (zI x10)), (2, .int (zI (y2 + 1)))]) cx 2 d_S_sinks_32 rfl (by decide) rfl rfl ?_
          refine v_goto cx 4 d_S_sinks_35 (by decide) ?_
          obtain ⟨hI2, hz12, hz13, hm2⟩ := h
          exact ih4 _ _ _ (Nat.lt_of_lt_of_le hm2 (Nat.le_of_lt_succ hmm4)) hI2 hz12 hz13
        · replace h := h.2 c9
          refine v_iconst cx d_S_sinks_25 ?_
          refine v_goto cx 30 d_S_sinks_26 (by decide) ?_
          refine v_iadd cx d_S_sinks_30 ?_
          refine v_nm (fun x14 ex14 => ?_)
          replace h := h x14 ex14
          refine v_istore_n (lv' := [(0, .ref (ad 11)), (1, .int (zI x14)), (2, .int (zI y2))]) cx d_S_sinks_31 rfl (by decide) rfl rfl ?_
          refine v_iinc (lv' := [(0, .ref (ad 11)), (1, .int (zI x14)), (2, .int (zI (y2 + 1)))]) cx 2 d_S_sinks_32 rfl (by decide) rfl rfl ?_
          refine v_goto cx 4 d_S_sinks_35 (by decide) ?_
          obtain ⟨hI2, hz16, hz17, hm2⟩ := h
          exact ih4 _ _ _ (Nat.lt_of_lt_of_le hm2 (Nat.le_of_lt_succ hmm4)) hI2 hz16 hz17
  exact L4 _ _ _ _ (Nat.lt_succ_self _) h0 ⟨by decide, by decide⟩ ⟨by decide, by decide⟩
def q_S_gather (K : zS → Prop) (σ : zS) : Prop :=
  q_L_places (fun r2 σ1 =>
    ∃ (I10 : Int → zS → Prop) (μ10 : Int → zS → Nat), (I10 0 σ1) ∧ ∀ (y3 : Int) (σ4 : zS), I10 y3 σ4 → zR y3 → 
    (r2 ≤ y3 →
      ∃ (I41 : Int → zS → Prop) (μ41 : Int → zS → Nat), (I41 0 σ4) ∧ ∀ (y6 : Int) (σ7 : zS), I41 y6 σ7 → zR y6 → 
      (r2 ≤ y6 →
        K σ7) ∧ (y6 < r2 →
        ∃ (I51 : Int → Int → zS → Prop) (μ51 : Int → Int → zS → Nat), (I51 y6 0 σ7) ∧ ∀ (y9 y10 : Int) (σ11 : zS), I51 y9 y10 σ11 → zR y9 → zR y10 → 
        (r2 ≤ y10 →
          I41 (y6 + 1) σ11 ∧ zR (y6 + 1) ∧ μ41 (y6 + 1) σ11 < μ41 y6 σ7) ∧ (y10 < r2 →
          (y9 = (-1) →
            I41 (y6 + 1) σ11 ∧ zR (y6 + 1) ∧ μ41 (y6 + 1) σ11 < μ41 y6 σ7) ∧ (y9 ≠ (-1) →
            (0 ≤ y9 ∧ y9 < 81) ∧ (zR ((σ11 13 y9) + 1) ∧ (∀ σ21 : zS, σ21 = zU σ11 13 y9 ((σ11 13 y9) + 1) → ∀ x23 : Int, x23 = σ21 12 y9 → I51 x23 (y10 + 1) σ21 ∧ zR (y10 + 1) ∧ μ51 x23 (y10 + 1) σ21 < μ51 y9 y10 σ11)))))) ∧ (y3 < r2 →
      q_S_runOf y3 (fun r27 σ26 =>
        (0 ≤ y3 ∧ y3 < 81) ∧ (∀ σ29 : zS, σ29 = zU σ26 12 y3 r27 → ∀ σ30 : zS, σ30 = zU σ29 13 y3 0 → I10 (y3 + 1) σ30 ∧ zR (y3 + 1) ∧ μ10 (y3 + 1) σ30 < μ10 y3 σ4)) σ4)) σ
abbrev rm_S_gather : Room := { frames := 2, cells := 0, slots := 0, locals := 47 }
set_option maxRecDepth 20000 in
set_option maxHeartbeats 4000000 in
theorem s_S_gather {Ω : zO} {ad : Nat → Nat} {K : zS → Prop} {σ : zS}  (h : q_S_gather K σ) : zMv Ω y_S_gather (.code y_S_gather c_S_gather 5 none) rm_S_gather zLy ad [.ref (ad 11)] σ K := by
  refine z_ofv (lv := [(0, .ref (ad 11))]) (by decide) rfl (Nat.le_of_ble_eq_true rfl) ?_
  intro Γ Q cx rt
  unfold q_S_gather at h
  refine v_aload_n cx 0 d_S_gather_0 rfl rfl ?_
  refine gf_S_9 cx d_S_gather_1 ?_
  refine v_callVi0 (st := []) cx (s_L_places  h) yk_L_places lk_S_35 zl_3 rfl rfl rfl (Nat.le_of_ble_eq_true rfl) ⟨Nat.le_of_ble_eq_true rfl, Nat.le_of_ble_eq_true rfl⟩ ⟨rfl, rfl⟩ ⟨(Nat.le_of_ble_eq_true rfl), (Nat.le_of_ble_eq_true rfl)⟩ d_S_gather_4 (fun r2 σ1 hr2 h => ?_)
  refine v_istore_n (lv' := [(0, .ref (ad 11)), (1, .int (zI r2))]) cx d_S_gather_7 rfl (by decide) rfl rfl ?_
  refine v_iconst cx d_S_gather_8 ?_
  refine v_istore_n (lv' := [(0, .ref (ad 11)), (1, .int (zI r2)), (2, .int (zI 0))]) cx d_S_gather_9 rfl (by decide) rfl rfl ?_
  obtain ⟨I10, μ10, h0, h⟩ := h
  have L10 : ∀ (N10 : Nat) (y3 : Int) (σ4 : zS), μ10 y3 σ4 < N10 → I10 y3 σ4 → zR y3 → zV Ω Γ rm_S_gather 5 Q 0 0 zLy ad σ4 10 [(0, .ref (ad 11)), (1, .int (zI r2)), (2, .int (zI y3))] [] := by
    intro N10
    induction N10 with
    | zero => intro y3 σ4 hm; exact absurd hm (Nat.not_lt_zero _)
    | succ N10 ih10 =>
      intro y3 σ4 hmm10 hI hy3
      replace h := h y3 σ4 hI hy3
      refine v_iload_n cx 2 d_S_gather_10 rfl rfl ?_
      refine v_iload_n cx 1 d_S_gather_11 rfl rfl ?_
      refine v_icmp_ge cx 39 d_S_gather_12 (by decide) hy3 hr2 (fun c5 => ?_) (fun c5 => ?_)
      · replace h := h.1 c5
        refine v_iconst cx d_S_gather_39 ?_
        refine v_istore_n (lv' := [(0, .ref (ad 11)), (1, .int (zI r2)), (2, .int (zI 0))]) cx d_S_gather_40 rfl (by decide) rfl rfl ?_
        obtain ⟨I41, μ41, h0, h⟩ := h
        have L41 : ∀ (N41 : Nat) (y6 : Int) (σ7 : zS), μ41 y6 σ7 < N41 → I41 y6 σ7 → zR y6 → zV Ω Γ rm_S_gather 5 Q 0 0 zLy ad σ7 41 [(0, .ref (ad 11)), (1, .int (zI r2)), (2, .int (zI y6))] [] := by
          intro N41
          induction N41 with
          | zero => intro y6 σ7 hm; exact absurd hm (Nat.not_lt_zero _)
          | succ N41 ih41 =>
            intro y6 σ7 hmm41 hI hy6
            replace h := h y6 σ7 hI hy6
            refine v_iload_n cx 2 d_S_gather_41 rfl rfl ?_
            refine v_iload_n cx 1 d_S_gather_42 rfl rfl ?_
            refine v_icmp_ge cx 91 d_S_gather_43 (by decide) hy6 hr2 (fun c8 => ?_) (fun c8 => ?_)
            · replace h := h.1 c8
              exact rt _ _ _ _ _ (Nat.le_of_ble_eq_true rfl) (Nat.le_of_ble_eq_true rfl) d_S_gather_91 h
            · replace h := h.2 c8
              refine v_iload_n cx 2 d_S_gather_46 rfl rfl ?_
              refine v_istore_n (lv' := [(0, .ref (ad 11)), (1, .int (zI r2)), (2, .int (zI y6)), (3, .int (zI y6))]) cx d_S_gather_47 rfl (by decide) rfl rfl ?_
              refine v_iconst cx d_S_gather_48 ?_
              refine v_istore (lv' := [(0, .ref (ad 11)), (1, .int (zI r2)), (2, .int (zI y6)), (3, .int (zI y6)), (4, .int (zI 0))]) cx d_S_gather_49 (by decide) rfl rfl ?_
              obtain ⟨I51, μ51, h0, h⟩ := h
              have L51 : ∀ (N51 : Nat) (y9 y10 : Int) (σ11 : zS), μ51 y9 y10 σ11 < N51 → I51 y9 y10 σ11 → zR y9 → zR y10 → zV Ω Γ rm_S_gather 5 Q 0 0 zLy ad σ11 51 [(0, .ref (ad 11)), (1, .int (zI r2)), (2, .int (zI y6)), (3, .int (zI y9)), (4, .int (zI y10))] [] := by
                intro N51
                induction N51 with
                | zero => intro y9 y10 σ11 hm; exact absurd hm (Nat.not_lt_zero _)
                | succ N51 ih51 =>
                  intro y9 y10 σ11 hmm51 hI hy9 hy10
                  replace h := h y9 y10 σ11 hI hy9 hy10
                  refine v_iload cx 4 d_S_gather_51 rfl ?_
                  refine v_iload_n cx 1 d_S_gather_53 rfl rfl ?_
                  refine v_icmp_ge cx 85 d_S_gather_54 (by decide) hy10 hr2 (fun c12 => ?_) (fun c12 => ?_)
                  · replace h := h.1 c12
                    refine v_iinc (lv' := [(0, .ref (ad 11)), (1, .int (zI r2)), (2, .int (zI (y6 + 1))), (3, .int (zI y9)), (4, .int (zI y10))]) cx 2 d_S_gather_85 rfl (by decide) rfl rfl ?_
                    refine v_goto cx 41 d_S_gather_88 (by decide) ?_
                    refine v_sb (lv' := [(0, .ref (ad 11)), (1, .int (zI r2)), (2, .int (zI (y6 + 1)))]) [0, 1, 2] rfl ?_
                    obtain ⟨hI2, hz14, hm2⟩ := h
                    exact ih41 _ _ (Nat.lt_of_lt_of_le hm2 (Nat.le_of_lt_succ hmm41)) hI2 hz14
                  · replace h := h.2 c12
                    refine v_iload_n cx 3 d_S_gather_57 rfl rfl ?_
                    refine v_iconst cx d_S_gather_58 ?_
                    refine v_icmp_eq cx 85 d_S_gather_59 (by decide) hy9 ⟨by decide, by decide⟩ (fun c15 => ?_) (fun c15 => ?_)
                    · replace h := h.1 c15
                      refine v_iinc (lv' := [(0, .ref (ad 11)), (1, .int (zI r2)), (2, .int (zI (y6 + 1))), (3, .int (zI y9)), (4, .int (zI y10))]) cx 2 d_S_gather_85 rfl (by decide) rfl rfl ?_
                      refine v_goto cx 41 d_S_gather_88 (by decide) ?_
                      refine v_sb (lv' := [(0, .ref (ad 11)), (1, .int (zI r2)), (2, .int (zI (y6 + 1)))]) [0, 1, 2] rfl ?_
                      obtain ⟨hI2, hz17, hm2⟩ := h
                      exact ih41 _ _ (Nat.lt_of_lt_of_le hm2 (Nat.le_of_lt_succ hmm41)) hI2 hz17
                    · replace h := h.2 c15
                      refine v_aload_n cx 0 d_S_gather_62 rfl rfl ?_
                      refine gf_S_19 cx d_S_gather_63 ?_
                      refine v_iload_n cx 3 d_S_gather_66 rfl rfl ?_
                      refine v_dup2 cx d_S_gather_67 rfl rfl ?_
                      obtain ⟨hb18, h⟩ := h
                      refine v_iald cx zl_13 (by decide) hb18.1 hb18.2 d_S_gather_68 (fun hl19 => ?_)
                      refine v_iconst cx d_S_gather_69 ?_
                      refine v_iadd cx d_S_gather_70 ?_
                      obtain ⟨hr20, h⟩ := h
                      refine v_iast cx zl_13 (by decide) hb18.1 hb18.2 hr20 d_S_gather_71 ?_
                      refine v_ns (fun σ21 eσ21 => ?_)
                      replace h := h σ21 eσ21
                      refine v_aload_n cx 0 d_S_gather_72 rfl rfl ?_
                      refine gf_S_15 cx d_S_gather_73 ?_
                      refine v_iload_n cx 3 d_S_gather_76 rfl rfl ?_
                      refine v_iald cx zl_12 (by decide) hb18.1 hb18.2 d_S_gather_77 (fun hl22 => ?_)
                      refine v_nm (fun x23 ex23 => ?_)
                      replace h := h x23 ex23
                      have hx23 : zR x23 := by rw [ex23]; exact hl22
                      refine v_istore_n (lv' := [(0, .ref (ad 11)), (1, .int (zI r2)), (2, .int (zI y6)), (3, .int (zI x23)), (4, .int (zI y10))]) cx d_S_gather_78 rfl (by decide) rfl rfl ?_
                      refine v_iinc (lv' := [(0, .ref (ad 11)), (1, .int (zI r2)), (2, .int (zI y6)), (3, .int (zI x23)), (4, .int (zI (y10 + 1)))]) cx 4 d_S_gather_79 rfl (by decide) rfl rfl ?_
                      refine v_goto cx 51 d_S_gather_82 (by decide) ?_
                      obtain ⟨hI2, hz25, hm2⟩ := h
                      exact ih51 _ _ _ (Nat.lt_of_lt_of_le hm2 (Nat.le_of_lt_succ hmm51)) hI2 hx23 hz25
              exact L51 _ _ _ _ (Nat.lt_succ_self _) h0 hy6 ⟨by decide, by decide⟩
        exact L41 _ _ _ (Nat.lt_succ_self _) h0 ⟨by decide, by decide⟩
      · replace h := h.2 c5
        refine v_aload_n cx 0 d_S_gather_15 rfl rfl ?_
        refine gf_S_15 cx d_S_gather_16 ?_
        refine v_iload_n cx 2 d_S_gather_19 rfl rfl ?_
        refine v_aload_n cx 0 d_S_gather_20 rfl rfl ?_
        refine v_iload_n cx 2 d_S_gather_21 rfl rfl ?_
        refine v_callVi0 (st := [.int (zI y3), .ref (ad 12)]) cx (s_S_runOf hy3 h) yk_S_runOf lk_S_39 zl_11 rfl rfl rfl (Nat.le_of_ble_eq_true rfl) ⟨Nat.le_of_ble_eq_true rfl, Nat.le_of_ble_eq_true rfl⟩ ⟨rfl, rfl⟩ ⟨(Nat.le_of_ble_eq_true rfl), (Nat.le_of_ble_eq_true rfl)⟩ d_S_gather_22 (fun r27 σ26 hr27 h => ?_)
        obtain ⟨hb28, h⟩ := h
        refine v_iast cx zl_12 (by decide) hb28.1 hb28.2 hr27 d_S_gather_25 ?_
        refine v_ns (fun σ29 eσ29 => ?_)
        replace h := h σ29 eσ29
        refine v_aload_n cx 0 d_S_gather_26 rfl rfl ?_
        refine gf_S_19 cx d_S_gather_27 ?_
        refine v_iload_n cx 2 d_S_gather_30 rfl rfl ?_
        refine v_iconst cx d_S_gather_31 ?_
        refine v_iast cx zl_13 (by decide) hb28.1 hb28.2 ⟨by decide, by decide⟩ d_S_gather_32 ?_
        refine v_ns (fun σ30 eσ30 => ?_)
        replace h := h σ30 eσ30
        refine v_iinc (lv' := [(0, .ref (ad 11)), (1, .int (zI r2)), (2, .int (zI (y3 + 1)))]) cx 2 d_S_gather_33 rfl (by decide) rfl rfl ?_
        refine v_goto cx 10 d_S_gather_36 (by decide) ?_
        obtain ⟨hI2, hz32, hm2⟩ := h
        exact ih10 _ _ (Nat.lt_of_lt_of_le hm2 (Nat.le_of_lt_succ hmm10)) hI2 hz32
  exact L10 _ _ _ (Nat.lt_succ_self _) h0 ⟨by decide, by decide⟩
def q_S_catchOf (place : Int) (K : Int → zS → Prop) (σ : zS) : Prop :=
  (0 ≤ place ∧ place < 81) ∧ (K (σ 13 place) σ)
abbrev rm_S_catchOf : Room := { frames := 0, cells := 0, slots := 0, locals := 0 }
set_option maxRecDepth 20000 in
set_option maxHeartbeats 4000000 in
theorem s_S_catchOf {Ω : zO} {ad : Nat → Nat} {place : Int} {K : Int → zS → Prop} {σ : zS} (hplace : zR place) (h : q_S_catchOf place K σ) : zMi Ω y_S_catchOf (.code y_S_catchOf c_S_catchOf 2 (some .int)) rm_S_catchOf zLy ad [.ref (ad 11), .int (zI place)] σ K := by
  refine z_ofi (lv := [(0, .ref (ad 11)), (1, .int (zI place))]) (by decide) rfl (Nat.le_of_ble_eq_true rfl) ?_
  intro Γ Q cx rt
  unfold q_S_catchOf at h
  refine v_aload_n cx 0 d_S_catchOf_0 rfl rfl ?_
  refine gf_S_19 cx d_S_catchOf_1 ?_
  refine v_iload_n cx 1 d_S_catchOf_4 rfl rfl ?_
  obtain ⟨hb1, h⟩ := h
  refine v_iald cx zl_13 (by decide) hb1.1 hb1.2 d_S_catchOf_5 (fun hl2 => ?_)
  exact rt _ _ _ _ _ _ (Nat.le_of_ble_eq_true rfl) (Nat.le_of_ble_eq_true rfl) d_S_catchOf_6 hl2 h
def q_S_lowestMet (K : Int → zS → Prop) (σ : zS) : Prop :=
  ∃ (I4 : Int → Int → zS → Prop) (μ4 : Int → Int → zS → Nat), (I4 (-1) 0 σ) ∧ ∀ (y1 y2 : Int) (σ3 : zS), I4 y1 y2 σ3 → zR y1 → zR y2 → 
  q_L_places (fun r5 σ4 =>
    (r5 ≤ y2 →
      K y1 σ4) ∧ (y2 < r5 →
      (0 ≤ y2 ∧ y2 < 81) ∧ (((σ4 14 y2) ≠ 1 →
          I4 y1 (y2 + 1) σ4 ∧ zR (y2 + 1) ∧ μ4 y1 (y2 + 1) σ4 < μ4 y1 y2 σ3) ∧ ((σ4 14 y2) = 1 →
          (y1 = (-1) →
            I4 y2 (y2 + 1) σ4 ∧ zR (y2 + 1) ∧ μ4 y2 (y2 + 1) σ4 < μ4 y1 y2 σ3) ∧ (y1 ≠ (-1) →
            q_L_height y2 (fun r16 σ15 =>
              q_L_height y1 (fun r18 σ17 =>
                (r18 ≤ r16 →
                  I4 y1 (y2 + 1) σ17 ∧ zR (y2 + 1) ∧ μ4 y1 (y2 + 1) σ17 < μ4 y1 y2 σ3) ∧ (r16 < r18 →
                  I4 y2 (y2 + 1) σ17 ∧ zR (y2 + 1) ∧ μ4 y2 (y2 + 1) σ17 < μ4 y1 y2 σ3)) σ15) σ4))))) σ3
abbrev rm_S_lowestMet : Room := { frames := 1, cells := 0, slots := 0, locals := 21 }
set_option maxRecDepth 20000 in
set_option maxHeartbeats 4000000 in
theorem s_S_lowestMet {Ω : zO} {ad : Nat → Nat} {K : Int → zS → Prop} {σ : zS}  (h : q_S_lowestMet K σ) : zMi Ω y_S_lowestMet (.code y_S_lowestMet c_S_lowestMet 3 (some .int)) rm_S_lowestMet zLy ad [.ref (ad 11)] σ K := by
  refine z_ofi (lv := [(0, .ref (ad 11))]) (by decide) rfl (Nat.le_of_ble_eq_true rfl) ?_
  intro Γ Q cx rt
  unfold q_S_lowestMet at h
  refine v_iconst cx d_S_lowestMet_0 ?_
  refine v_istore_n (lv' := [(0, .ref (ad 11)), (1, .int (zI (-1)))]) cx d_S_lowestMet_1 rfl (by decide) rfl rfl ?_
  refine v_iconst cx d_S_lowestMet_2 ?_
  refine v_istore_n (lv' := [(0, .ref (ad 11)), (1, .int (zI (-1))), (2, .int (zI 0))]) cx d_S_lowestMet_3 rfl (by decide) rfl rfl ?_
  obtain ⟨I4, μ4, h0, h⟩ := h
  have L4 : ∀ (N4 : Nat) (y1 y2 : Int) (σ3 : zS), μ4 y1 y2 σ3 < N4 → I4 y1 y2 σ3 → zR y1 → zR y2 → zV Ω Γ rm_S_lowestMet 3 Q 0 0 zLy ad σ3 4 [(0, .ref (ad 11)), (1, .int (zI y1)), (2, .int (zI y2))] [] := by
    intro N4
    induction N4 with
    | zero => intro y1 y2 σ3 hm; exact absurd hm (Nat.not_lt_zero _)
    | succ N4 ih4 =>
      intro y1 y2 σ3 hmm4 hI hy1 hy2
      replace h := h y1 y2 σ3 hI hy1 hy2
      refine v_iload_n cx 2 d_S_lowestMet_4 rfl rfl ?_
      refine v_aload_n cx 0 d_S_lowestMet_5 rfl rfl ?_
      refine gf_S_9 cx d_S_lowestMet_6 ?_
      refine v_callVi0 (st := [.int (zI y2)]) cx (s_L_places  h) yk_L_places lk_S_35 zl_3 rfl rfl rfl (Nat.le_of_ble_eq_true rfl) ⟨Nat.le_of_ble_eq_true rfl, Nat.le_of_ble_eq_true rfl⟩ ⟨rfl, rfl⟩ ⟨(Nat.le_of_ble_eq_true rfl), (Nat.le_of_ble_eq_true rfl)⟩ d_S_lowestMet_9 (fun r5 σ4 hr5 h => ?_)
      refine v_icmp_ge cx 57 d_S_lowestMet_12 (by decide) hy2 hr5 (fun c6 => ?_) (fun c6 => ?_)
      · replace h := h.1 c6
        refine v_iload_n cx 1 d_S_lowestMet_57 rfl rfl ?_
        exact rt _ _ _ _ _ _ (Nat.le_of_ble_eq_true rfl) (Nat.le_of_ble_eq_true rfl) d_S_lowestMet_58 hy1 h
      · replace h := h.2 c6
        refine v_aload_n cx 0 d_S_lowestMet_15 rfl rfl ?_
        refine gf_S_22 cx d_S_lowestMet_16 ?_
        refine v_iload_n cx 2 d_S_lowestMet_19 rfl rfl ?_
        obtain ⟨hb7, h⟩ := h
        refine v_iald cx zl_14 (by decide) hb7.1 hb7.2 d_S_lowestMet_20 (fun hl8 => ?_)
        refine v_iconst cx d_S_lowestMet_21 ?_
        refine v_icmp_ne cx 51 d_S_lowestMet_22 (by decide) hl8 ⟨by decide, by decide⟩ (fun c9 => ?_) (fun c9 => ?_)
        · replace h := h.1 c9
          refine v_iinc (lv' := [(0, .ref (ad 11)), (1, .int (zI y1)), (2, .int (zI (y2 + 1)))]) cx 2 d_S_lowestMet_51 rfl (by decide) rfl rfl ?_
          refine v_goto cx 4 d_S_lowestMet_54 (by decide) ?_
          obtain ⟨hI2, hz11, hm2⟩ := h
          exact ih4 _ _ _ (Nat.lt_of_lt_of_le hm2 (Nat.le_of_lt_succ hmm4)) hI2 hy1 hz11
        · replace h := h.2 c9
          refine v_iload_n cx 1 d_S_lowestMet_25 rfl rfl ?_
          refine v_iconst cx d_S_lowestMet_26 ?_
          refine v_icmp_eq cx 49 d_S_lowestMet_27 (by decide) hy1 ⟨by decide, by decide⟩ (fun c12 => ?_) (fun c12 => ?_)
          · replace h := h.1 c12
            refine v_iload_n cx 2 d_S_lowestMet_49 rfl rfl ?_
            refine v_istore_n (lv' := [(0, .ref (ad 11)), (1, .int (zI y2)), (2, .int (zI y2))]) cx d_S_lowestMet_50 rfl (by decide) rfl rfl ?_
            refine v_iinc (lv' := [(0, .ref (ad 11)), (1, .int (zI y2)), (2, .int (zI (y2 + 1)))]) cx 2 d_S_lowestMet_51 rfl (by decide) rfl rfl ?_
            refine v_goto cx 4 d_S_lowestMet_54 (by decide) ?_
            obtain ⟨hI2, hz14, hm2⟩ := h
            exact ih4 _ _ _ (Nat.lt_of_lt_of_le hm2 (Nat.le_of_lt_succ hmm4)) hI2 hy2 hz14
          · replace h := h.2 c12
            refine v_aload_n cx 0 d_S_lowestMet_30 rfl rfl ?_
            refine gf_S_9 cx d_S_lowestMet_31 ?_
            refine v_iload_n cx 2 d_S_lowestMet_34 rfl rfl ?_
            refine v_callVi0 (st := []) cx (s_L_height hy2 h) yk_L_height lk_S_25 zl_3 rfl rfl rfl (Nat.le_of_ble_eq_true rfl) ⟨Nat.le_of_ble_eq_true rfl, Nat.le_of_ble_eq_true rfl⟩ ⟨rfl, rfl⟩ ⟨(Nat.le_of_ble_eq_true rfl), (Nat.le_of_ble_eq_true rfl)⟩ d_S_lowestMet_35 (fun r16 σ15 hr16 h => ?_)
            refine v_aload_n cx 0 d_S_lowestMet_38 rfl rfl ?_
            refine gf_S_9 cx d_S_lowestMet_39 ?_
            refine v_iload_n cx 1 d_S_lowestMet_42 rfl rfl ?_
            refine v_callVi0 (st := [.int (zI r16)]) cx (s_L_height hy1 h) yk_L_height lk_S_25 zl_3 rfl rfl rfl (Nat.le_of_ble_eq_true rfl) ⟨Nat.le_of_ble_eq_true rfl, Nat.le_of_ble_eq_true rfl⟩ ⟨rfl, rfl⟩ ⟨(Nat.le_of_ble_eq_true rfl), (Nat.le_of_ble_eq_true rfl)⟩ d_S_lowestMet_43 (fun r18 σ17 hr18 h => ?_)
            refine v_icmp_ge cx 51 d_S_lowestMet_46 (by decide) hr16 hr18 (fun c19 => ?_) (fun c19 => ?_)
            · replace h := h.1 c19
              refine v_iinc (lv' := [(0, .ref (ad 11)), (1, .int (zI y1)), (2, .int (zI (y2 + 1)))]) cx 2 d_S_lowestMet_51 rfl (by decide) rfl rfl ?_
              refine v_goto cx 4 d_S_lowestMet_54 (by decide) ?_
              obtain ⟨hI2, hz21, hm2⟩ := h
              exact ih4 _ _ _ (Nat.lt_of_lt_of_le hm2 (Nat.le_of_lt_succ hmm4)) hI2 hy1 hz21
            · replace h := h.2 c19
              refine v_iload_n cx 2 d_S_lowestMet_49 rfl rfl ?_
              refine v_istore_n (lv' := [(0, .ref (ad 11)), (1, .int (zI y2)), (2, .int (zI y2))]) cx d_S_lowestMet_50 rfl (by decide) rfl rfl ?_
              refine v_iinc (lv' := [(0, .ref (ad 11)), (1, .int (zI y2)), (2, .int (zI (y2 + 1)))]) cx 2 d_S_lowestMet_51 rfl (by decide) rfl rfl ?_
              refine v_goto cx 4 d_S_lowestMet_54 (by decide) ?_
              obtain ⟨hI2, hz23, hm2⟩ := h
              exact ih4 _ _ _ (Nat.lt_of_lt_of_le hm2 (Nat.le_of_lt_succ hmm4)) hI2 hy2 hz23
  exact L4 _ _ _ _ (Nat.lt_succ_self _) h0 ⟨by decide, by decide⟩ ⟨by decide, by decide⟩
def q_S_pass (place : Int) (K : zS → Prop) (σ : zS) : Prop :=
  (0 ≤ place ∧ place < 81) ∧ (∀ σ2 : zS, σ2 = zU σ 14 place 2 → ∃ (I9 : Int → zS → Prop) (μ9 : Int → zS → Nat), (I9 0 σ2) ∧ ∀ (y3 : Int) (σ4 : zS), I9 y3 σ4 → zR y3 → 
    (8 ≤ y3 →
      K σ4) ∧ (y3 < 8 →
      q_L_besideOf place y3 (fun r7 σ6 =>
        (r7 = (-1) →
          I9 (y3 + 1) σ6 ∧ zR (y3 + 1) ∧ μ9 (y3 + 1) σ6 < μ9 y3 σ4) ∧ (r7 ≠ (-1) →
          (0 ≤ r7 ∧ r7 < 81) ∧ (((σ6 14 r7) ≠ 0 →
              I9 (y3 + 1) σ6 ∧ zR (y3 + 1) ∧ μ9 (y3 + 1) σ6 < μ9 y3 σ4) ∧ ((σ6 14 r7) = 0 →
              ∀ σ16 : zS, σ16 = zU σ6 14 r7 1 → I9 (y3 + 1) σ16 ∧ zR (y3 + 1) ∧ μ9 (y3 + 1) σ16 < μ9 y3 σ4)))) σ4))
abbrev rm_S_pass : Room := { frames := 1, cells := 0, slots := 0, locals := 22 }
set_option maxRecDepth 20000 in
set_option maxHeartbeats 4000000 in
theorem s_S_pass {Ω : zO} {ad : Nat → Nat} {place : Int} {K : zS → Prop} {σ : zS} (hplace : zR place) (h : q_S_pass place K σ) : zMv Ω y_S_pass (.code y_S_pass c_S_pass 4 none) rm_S_pass zLy ad [.ref (ad 11), .int (zI place)] σ K := by
  refine z_ofv (lv := [(0, .ref (ad 11)), (1, .int (zI place))]) (by decide) rfl (Nat.le_of_ble_eq_true rfl) ?_
  intro Γ Q cx rt
  unfold q_S_pass at h
  refine v_aload_n cx 0 d_S_pass_0 rfl rfl ?_
  refine gf_S_22 cx d_S_pass_1 ?_
  refine v_iload_n cx 1 d_S_pass_4 rfl rfl ?_
  refine v_iconst cx d_S_pass_5 ?_
  obtain ⟨hb1, h⟩ := h
  refine v_iast cx zl_14 (by decide) hb1.1 hb1.2 ⟨by decide, by decide⟩ d_S_pass_6 ?_
  refine v_ns (fun σ2 eσ2 => ?_)
  replace h := h σ2 eσ2
  refine v_iconst cx d_S_pass_7 ?_
  refine v_istore_n (lv' := [(0, .ref (ad 11)), (1, .int (zI place)), (2, .int (zI 0))]) cx d_S_pass_8 rfl (by decide) rfl rfl ?_
  obtain ⟨I9, μ9, h0, h⟩ := h
  have L9 : ∀ (N9 : Nat) (y3 : Int) (σ4 : zS), μ9 y3 σ4 < N9 → I9 y3 σ4 → zR y3 → zV Ω Γ rm_S_pass 4 Q 0 0 zLy ad σ4 9 [(0, .ref (ad 11)), (1, .int (zI place)), (2, .int (zI y3))] [] := by
    intro N9
    induction N9 with
    | zero => intro y3 σ4 hm; exact absurd hm (Nat.not_lt_zero _)
    | succ N9 ih9 =>
      intro y3 σ4 hmm9 hI hy3
      replace h := h y3 σ4 hI hy3
      refine v_iload_n cx 2 d_S_pass_9 rfl rfl ?_
      refine v_bipush cx (by decide) d_S_pass_10 ?_
      refine v_icmp_ge cx 52 d_S_pass_12 (by decide) hy3 ⟨by decide, by decide⟩ (fun c5 => ?_) (fun c5 => ?_)
      · replace h := h.1 c5
        exact rt _ _ _ _ _ (Nat.le_of_ble_eq_true rfl) (Nat.le_of_ble_eq_true rfl) d_S_pass_52 h
      · replace h := h.2 c5
        refine v_aload_n cx 0 d_S_pass_15 rfl rfl ?_
        refine gf_S_9 cx d_S_pass_16 ?_
        refine v_iload_n cx 1 d_S_pass_19 rfl rfl ?_
        refine v_iload_n cx 2 d_S_pass_20 rfl rfl ?_
        refine v_callVi0 (st := []) cx (s_L_besideOf hplace hy3 h) yk_L_besideOf lk_S_31 zl_3 rfl rfl rfl (Nat.le_of_ble_eq_true rfl) ⟨Nat.le_of_ble_eq_true rfl, Nat.le_of_ble_eq_true rfl⟩ ⟨rfl, rfl⟩ ⟨(Nat.le_of_ble_eq_true rfl), (Nat.le_of_ble_eq_true rfl)⟩ d_S_pass_21 (fun r7 σ6 hr7 h => ?_)
        refine v_istore_n (lv' := [(0, .ref (ad 11)), (1, .int (zI place)), (2, .int (zI y3)), (3, .int (zI r7))]) cx d_S_pass_24 rfl (by decide) rfl rfl ?_
        refine v_iload_n cx 3 d_S_pass_25 rfl rfl ?_
        refine v_iconst cx d_S_pass_26 ?_
        refine v_icmp_eq cx 46 d_S_pass_27 (by decide) hr7 ⟨by decide, by decide⟩ (fun c8 => ?_) (fun c8 => ?_)
        · replace h := h.1 c8
          refine v_iinc (lv' := [(0, .ref (ad 11)), (1, .int (zI place)), (2, .int (zI (y3 + 1))), (3, .int (zI r7))]) cx 2 d_S_pass_46 rfl (by decide) rfl rfl ?_
          refine v_goto cx 9 d_S_pass_49 (by decide) ?_
          refine v_sb (lv' := [(0, .ref (ad 11)), (1, .int (zI place)), (2, .int (zI (y3 + 1)))]) [0, 1, 2] rfl ?_
          obtain ⟨hI2, hz10, hm2⟩ := h
          exact ih9 _ _ (Nat.lt_of_lt_of_le hm2 (Nat.le_of_lt_succ hmm9)) hI2 hz10
        · replace h := h.2 c8
          refine v_aload_n cx 0 d_S_pass_30 rfl rfl ?_
          refine gf_S_22 cx d_S_pass_31 ?_
          refine v_iload_n cx 3 d_S_pass_34 rfl rfl ?_
          obtain ⟨hb11, h⟩ := h
          refine v_iald cx zl_14 (by decide) hb11.1 hb11.2 d_S_pass_35 (fun hl12 => ?_)
          refine v_if_ne cx 46 d_S_pass_36 (by decide) hl12 (fun c13 => ?_) (fun c13 => ?_)
          · replace h := h.1 c13
            refine v_iinc (lv' := [(0, .ref (ad 11)), (1, .int (zI place)), (2, .int (zI (y3 + 1))), (3, .int (zI r7))]) cx 2 d_S_pass_46 rfl (by decide) rfl rfl ?_
            refine v_goto cx 9 d_S_pass_49 (by decide) ?_
            refine v_sb (lv' := [(0, .ref (ad 11)), (1, .int (zI place)), (2, .int (zI (y3 + 1)))]) [0, 1, 2] rfl ?_
            obtain ⟨hI2, hz15, hm2⟩ := h
            exact ih9 _ _ (Nat.lt_of_lt_of_le hm2 (Nat.le_of_lt_succ hmm9)) hI2 hz15
          · replace h := h.2 c13
            refine v_aload_n cx 0 d_S_pass_39 rfl rfl ?_
            refine gf_S_22 cx d_S_pass_40 ?_
            refine v_iload_n cx 3 d_S_pass_43 rfl rfl ?_
            refine v_iconst cx d_S_pass_44 ?_
            refine v_iast cx zl_14 (by decide) hb11.1 hb11.2 ⟨by decide, by decide⟩ d_S_pass_45 ?_
            refine v_ns (fun σ16 eσ16 => ?_)
            replace h := h σ16 eσ16
            refine v_iinc (lv' := [(0, .ref (ad 11)), (1, .int (zI place)), (2, .int (zI (y3 + 1))), (3, .int (zI r7))]) cx 2 d_S_pass_46 rfl (by decide) rfl rfl ?_
            refine v_goto cx 9 d_S_pass_49 (by decide) ?_
            refine v_sb (lv' := [(0, .ref (ad 11)), (1, .int (zI place)), (2, .int (zI (y3 + 1)))]) [0, 1, 2] rfl ?_
            obtain ⟨hI2, hz18, hm2⟩ := h
            exact ih9 _ _ (Nat.lt_of_lt_of_le hm2 (Nat.le_of_lt_succ hmm9)) hI2 hz18
  exact L9 _ _ _ (Nat.lt_succ_self _) h0 ⟨by decide, by decide⟩
def q_S_spillOf (place : Int) (K : Int → zS → Prop) (σ : zS) : Prop :=
  q_J_fill2 14 81 0 (fun σ1 =>
    (0 ≤ place ∧ place < 81) ∧ (∀ σ3 : zS, σ3 = zU σ1 14 place 1 → ∃ (I19 : Int → Int → zS → Prop) (μ19 : Int → Int → zS → Nat), (I19 0 0 σ3) ∧ ∀ (y4 y5 : Int) (σ6 : zS), I19 y4 y5 σ6 → zR y4 → zR y5 → 
      q_L_places (fun r8 σ7 =>
        (r8 ≤ y5 →
          K y4 σ7) ∧ (y5 < r8 →
          q_S_lowestMet (fun r11 σ10 =>
            (r11 ≠ (-1) →
              q_L_height r11 (fun r14 σ13 =>
                ∀ x16 : Int, x16 = max y4 r14 → q_L_isEdge r11 (fun r18 σ17 =>
                  (r18 = 0 →
                    q_S_pass r11 (fun σ20 =>
                      I19 x16 (y5 + 1) σ20 ∧ zR (y5 + 1) ∧ μ19 x16 (y5 + 1) σ20 < μ19 y4 y5 σ6) σ17) ∧ (r18 ≠ 0 →
                    K x16 σ17)) σ13) σ10) ∧ (r11 = (-1) →
              K y4 σ10)) σ7)) σ6)) σ
abbrev rm_S_spillOf : Room := { frames := 2, cells := 0, slots := 0, locals := 45 }
set_option maxRecDepth 20000 in
set_option maxHeartbeats 4000000 in
theorem s_S_spillOf {Ω : zO} {ad : Nat → Nat} {place : Int} {K : Int → zS → Prop} {σ : zS} (hplace : zR place) (h : q_S_spillOf place K σ) : zMi Ω y_S_spillOf (.code y_S_spillOf c_S_spillOf 5 (some .int)) rm_S_spillOf zLy ad [.ref (ad 11), .int (zI place)] σ K := by
  refine z_ofi (lv := [(0, .ref (ad 11)), (1, .int (zI place))]) (by decide) rfl (Nat.le_of_ble_eq_true rfl) ?_
  intro Γ Q cx rt
  unfold q_S_spillOf at h
  refine v_aload_n cx 0 d_S_spillOf_0 rfl rfl ?_
  refine gf_S_22 cx d_S_spillOf_1 ?_
  refine v_iconst cx d_S_spillOf_4 ?_
  refine v_callSv0 (st := []) cx (s_J_fill2 (o := 14) zl_14 (by decide) ⟨by decide, by decide⟩ h) yk_J_fill2 lk_S_42 rfl rfl (Nat.le_of_ble_eq_true rfl) ⟨Nat.le_of_ble_eq_true rfl, Nat.le_of_ble_eq_true rfl⟩ ⟨rfl, rfl⟩ ⟨Nat.le_of_ble_eq_true rfl, Nat.le_of_ble_eq_true rfl⟩ d_S_spillOf_5 (fun σ1 h => ?_)
  refine v_aload_n cx 0 d_S_spillOf_8 rfl rfl ?_
  refine gf_S_22 cx d_S_spillOf_9 ?_
  refine v_iload_n cx 1 d_S_spillOf_12 rfl rfl ?_
  refine v_iconst cx d_S_spillOf_13 ?_
  obtain ⟨hb2, h⟩ := h
  refine v_iast cx zl_14 (by decide) hb2.1 hb2.2 ⟨by decide, by decide⟩ d_S_spillOf_14 ?_
  refine v_ns (fun σ3 eσ3 => ?_)
  replace h := h σ3 eσ3
  refine v_iconst cx d_S_spillOf_15 ?_
  refine v_istore_n (lv' := [(0, .ref (ad 11)), (1, .int (zI place)), (2, .int (zI 0))]) cx d_S_spillOf_16 rfl (by decide) rfl rfl ?_
  refine v_iconst cx d_S_spillOf_17 ?_
  refine v_istore_n (lv' := [(0, .ref (ad 11)), (1, .int (zI place)), (2, .int (zI 0)), (3, .int (zI 0))]) cx d_S_spillOf_18 rfl (by decide) rfl rfl ?_
  refine v_sb (lv' := [(0, .ref (ad 11)), (2, .int (zI 0)), (3, .int (zI 0))]) [0, 2, 3] rfl ?_
  obtain ⟨I19, μ19, h0, h⟩ := h
  have L19 : ∀ (N19 : Nat) (y4 y5 : Int) (σ6 : zS), μ19 y4 y5 σ6 < N19 → I19 y4 y5 σ6 → zR y4 → zR y5 → zV Ω Γ rm_S_spillOf 5 Q 0 0 zLy ad σ6 19 [(0, .ref (ad 11)), (2, .int (zI y4)), (3, .int (zI y5))] [] := by
    intro N19
    induction N19 with
    | zero => intro y4 y5 σ6 hm; exact absurd hm (Nat.not_lt_zero _)
    | succ N19 ih19 =>
      intro y4 y5 σ6 hmm19 hI hy4 hy5
      replace h := h y4 y5 σ6 hI hy4 hy5
      refine v_iload_n cx 2 d_S_spillOf_19 rfl rfl ?_
      refine v_aload_n cx 0 d_S_spillOf_20 rfl rfl ?_
      refine gf_S_9 cx d_S_spillOf_21 ?_
      refine v_callVi0 (st := [.int (zI y5)]) cx (s_L_places  h) yk_L_places lk_S_35 zl_3 rfl rfl rfl (Nat.le_of_ble_eq_true rfl) ⟨Nat.le_of_ble_eq_true rfl, Nat.le_of_ble_eq_true rfl⟩ ⟨rfl, rfl⟩ ⟨(Nat.le_of_ble_eq_true rfl), (Nat.le_of_ble_eq_true rfl)⟩ d_S_spillOf_24 (fun r8 σ7 hr8 h => ?_)
      refine v_icmp_ge cx 84 d_S_spillOf_27 (by decide) hy5 hr8 (fun c9 => ?_) (fun c9 => ?_)
      · replace h := h.1 c9
        refine v_iload_n cx 1 d_S_spillOf_84 rfl rfl ?_
        exact rt _ _ _ _ _ _ (Nat.le_of_ble_eq_true rfl) (Nat.le_of_ble_eq_true rfl) d_S_spillOf_85 hy4 h
      · replace h := h.2 c9
        refine v_aload_n cx 0 d_S_spillOf_30 rfl rfl ?_
        refine v_callVi0 (st := []) cx (s_S_lowestMet  h) yk_S_lowestMet lk_S_48 zl_11 rfl rfl rfl (Nat.le_of_ble_eq_true rfl) ⟨Nat.le_of_ble_eq_true rfl, Nat.le_of_ble_eq_true rfl⟩ ⟨rfl, rfl⟩ ⟨(Nat.le_of_ble_eq_true rfl), (Nat.le_of_ble_eq_true rfl)⟩ d_S_spillOf_31 (fun r11 σ10 hr11 h => ?_)
        refine v_istore (lv' := [(0, .ref (ad 11)), (2, .int (zI y4)), (3, .int (zI y5)), (4, .int (zI r11))]) cx d_S_spillOf_34 (by decide) rfl rfl ?_
        refine v_iload cx 3 d_S_spillOf_36 rfl ?_
        refine v_iconst cx d_S_spillOf_38 ?_
        refine v_icmp_ne cx 44 d_S_spillOf_39 (by decide) hr11 ⟨by decide, by decide⟩ (fun c12 => ?_) (fun c12 => ?_)
        · replace h := h.1 c12
          refine v_iload_n cx 1 d_S_spillOf_44 rfl rfl ?_
          refine v_aload_n cx 0 d_S_spillOf_45 rfl rfl ?_
          refine gf_S_9 cx d_S_spillOf_46 ?_
          refine v_iload cx 3 d_S_spillOf_49 rfl ?_
          refine v_callVi0 (st := [.int (zI y4)]) cx (s_L_height hr11 h) yk_L_height lk_S_25 zl_3 rfl rfl rfl (Nat.le_of_ble_eq_true rfl) ⟨Nat.le_of_ble_eq_true rfl, Nat.le_of_ble_eq_true rfl⟩ ⟨rfl, rfl⟩ ⟨(Nat.le_of_ble_eq_true rfl), (Nat.le_of_ble_eq_true rfl)⟩ d_S_spillOf_51 (fun r14 σ13 hr14 h => ?_)
          refine v_mmax cx lk_S_51 zmath_max.1 zmath_max.2.1 zmath_max.2.2 hy4 hr14 (Nat.le_of_ble_eq_true rfl) (Nat.le_of_ble_eq_true rfl) (Nat.le_of_ble_eq_true rfl) (Nat.le_of_ble_eq_true rfl) d_S_spillOf_54 (fun hl15 => ?_)
          refine v_nm (fun x16 ex16 => ?_)
          replace h := h x16 ex16
          have hx16 : zR x16 := by rw [ex16]; exact hl15
          refine v_istore_n (lv' := [(0, .ref (ad 11)), (2, .int (zI x16)), (3, .int (zI y5)), (4, .int (zI r11))]) cx d_S_spillOf_57 rfl (by decide) rfl rfl ?_
          refine v_aload_n cx 0 d_S_spillOf_58 rfl rfl ?_
          refine gf_S_9 cx d_S_spillOf_59 ?_
          refine v_iload cx 3 d_S_spillOf_62 rfl ?_
          refine v_callVz0 (st := []) cx (s_L_isEdge hr11 h) yk_L_isEdge lk_S_56 zl_3 rfl rfl rfl (Nat.le_of_ble_eq_true rfl) ⟨Nat.le_of_ble_eq_true rfl, Nat.le_of_ble_eq_true rfl⟩ ⟨rfl, rfl⟩ ⟨(Nat.le_of_ble_eq_true rfl), (Nat.le_of_ble_eq_true rfl)⟩ d_S_spillOf_64 (fun r18 σ17 hr18 h => ?_)
          refine v_if_eq cx 72 d_S_spillOf_67 (by decide) (zR_b hr18) (fun c19 => ?_) (fun c19 => ?_)
          · replace h := h.1 c19
            refine v_aload_n cx 0 d_S_spillOf_72 rfl rfl ?_
            refine v_iload cx 3 d_S_spillOf_73 rfl ?_
            refine v_callVv0 (st := []) cx (s_S_pass hr11 h) yk_S_pass lk_S_60 zl_11 rfl rfl rfl (Nat.le_of_ble_eq_true rfl) ⟨Nat.le_of_ble_eq_true rfl, Nat.le_of_ble_eq_true rfl⟩ ⟨rfl, rfl⟩ ⟨(Nat.le_of_ble_eq_true rfl), (Nat.le_of_ble_eq_true rfl)⟩ d_S_spillOf_75 (fun σ20 h => ?_)
            refine v_iinc (lv' := [(0, .ref (ad 11)), (2, .int (zI x16)), (3, .int (zI (y5 + 1))), (4, .int (zI r11))]) cx 2 d_S_spillOf_78 rfl (by decide) rfl rfl ?_
            refine v_goto cx 19 d_S_spillOf_81 (by decide) ?_
            refine v_sb (lv' := [(0, .ref (ad 11)), (2, .int (zI x16)), (3, .int (zI (y5 + 1)))]) [0, 1, 2] rfl ?_
            obtain ⟨hI2, hz22, hm2⟩ := h
            exact ih19 _ _ _ (Nat.lt_of_lt_of_le hm2 (Nat.le_of_lt_succ hmm19)) hI2 hx16 hz22
          · replace h := h.2 c19
            refine v_iload_n cx 1 d_S_spillOf_70 rfl rfl ?_
            exact rt _ _ _ _ _ _ (Nat.le_of_ble_eq_true rfl) (Nat.le_of_ble_eq_true rfl) d_S_spillOf_71 hx16 h
        · replace h := h.2 c12
          refine v_iload_n cx 1 d_S_spillOf_42 rfl rfl ?_
          exact rt _ _ _ _ _ _ (Nat.le_of_ble_eq_true rfl) (Nat.le_of_ble_eq_true rfl) d_S_spillOf_43 hy4 h
  exact L19 _ _ _ _ (Nat.lt_succ_self _) h0 ⟨by decide, by decide⟩ ⟨by decide, by decide⟩
def q_H_clear (used : Int) (K : zS → Prop) (σ : zS) : Prop :=
  q_J_fill4 22 2592 0 used 1000000000 (fun σ1 =>
    ∀ σ2 : zS, σ2 = zU σ1 21 3 0 → K σ2) σ
abbrev rm_H_clear : Room := { frames := 2, cells := 0, slots := 0, locals := 46 }
set_option maxRecDepth 20000 in
set_option maxHeartbeats 4000000 in
theorem s_H_clear {Ω : zO} {ad : Nat → Nat} {used : Int} {K : zS → Prop} {σ : zS} (hused : zR used) (h : q_H_clear used K σ) : zMv Ω y_H_clear (.code y_H_clear c_H_clear 2 none) rm_H_clear zLy ad [.ref (ad 21), .int (zI used)] σ K := by
  refine z_ofv (lv := [(0, .ref (ad 21)), (1, .int (zI used))]) (by decide) rfl (Nat.le_of_ble_eq_true rfl) ?_
  intro Γ Q cx rt
  unfold q_H_clear at h
  refine v_aload_n cx 0 d_H_clear_0 rfl rfl ?_
  refine gf_H_9 cx d_H_clear_1 ?_
  refine v_iconst cx d_H_clear_4 ?_
  refine v_iload_n cx 1 d_H_clear_5 rfl rfl ?_
  refine v_ldc cx ct_H_25 d_H_clear_6 ?_
  refine v_callSv0 (st := []) cx (s_J_fill4 (o := 22) zl_22 (by decide) ⟨by decide, by decide⟩ hused ⟨by decide, by decide⟩ h) yk_J_fill4 lk_H_26 rfl rfl (Nat.le_of_ble_eq_true rfl) ⟨Nat.le_of_ble_eq_true rfl, Nat.le_of_ble_eq_true rfl⟩ ⟨rfl, rfl⟩ ⟨Nat.le_of_ble_eq_true rfl, Nat.le_of_ble_eq_true rfl⟩ d_H_clear_8 (fun σ1 h => ?_)
  refine v_aload_n cx 0 d_H_clear_11 rfl rfl ?_
  refine v_iconst cx d_H_clear_12 ?_
  refine pf_H_21 cx ⟨by decide, by decide⟩ d_H_clear_13 ?_
  refine v_ns (fun σ2 eσ2 => ?_)
  replace h := h σ2 eσ2
  exact rt _ _ _ _ _ (Nat.le_of_ble_eq_true rfl) (Nat.le_of_ble_eq_true rfl) d_H_clear_16 h
def q_H_isEmpty (K : Int → zS → Prop) (σ : zS) : Prop :=
  ((σ 21 3) ≠ 0 →
    K 0 σ) ∧ ((σ 21 3) = 0 →
    K 1 σ)
abbrev rm_H_isEmpty : Room := { frames := 0, cells := 0, slots := 0, locals := 0 }
set_option maxRecDepth 20000 in
set_option maxHeartbeats 4000000 in
theorem s_H_isEmpty {Ω : zO} {ad : Nat → Nat} {K : Int → zS → Prop} {σ : zS}  (h : q_H_isEmpty K σ) : zMz Ω y_H_isEmpty (.code y_H_isEmpty c_H_isEmpty 1 (some .boolean)) rm_H_isEmpty zLy ad [.ref (ad 21)] σ K := by
  refine z_ofz (lv := [(0, .ref (ad 21))]) (by decide) rfl (Nat.le_of_ble_eq_true rfl) ?_
  intro Γ Q cx rt
  unfold q_H_isEmpty at h
  refine v_aload_n cx 0 d_H_isEmpty_0 rfl rfl ?_
  refine gf_H_21 cx d_H_isEmpty_1 (fun hl1 => ?_)
  refine v_if_ne cx 11 d_H_isEmpty_4 (by decide) hl1 (fun c2 => ?_) (fun c2 => ?_)
  · replace h := h.1 c2
    refine v_iconst cx d_H_isEmpty_11 ?_
    exact rt _ _ _ _ _ _ (Nat.le_of_ble_eq_true rfl) (Nat.le_of_ble_eq_true rfl) d_H_isEmpty_12 (Or.inl rfl) h
  · replace h := h.2 c2
    refine v_iconst cx d_H_isEmpty_7 ?_
    refine v_goto cx 12 d_H_isEmpty_8 (by decide) ?_
    exact rt _ _ _ _ _ _ (Nat.le_of_ble_eq_true rfl) (Nat.le_of_ble_eq_true rfl) d_H_isEmpty_12 (Or.inr rfl) h
def q_H_key (node : Int) (K : Int → zS → Prop) (σ : zS) : Prop :=
  (0 ≤ node ∧ node < 2592) ∧ (K (σ 22 node) σ)
abbrev rm_H_key : Room := { frames := 0, cells := 0, slots := 0, locals := 0 }
set_option maxRecDepth 20000 in
set_option maxHeartbeats 4000000 in
theorem s_H_key {Ω : zO} {ad : Nat → Nat} {node : Int} {K : Int → zS → Prop} {σ : zS} (hnode : zR node) (h : q_H_key node K σ) : zMi Ω y_H_key (.code y_H_key c_H_key 2 (some .int)) rm_H_key zLy ad [.ref (ad 21), .int (zI node)] σ K := by
  refine z_ofi (lv := [(0, .ref (ad 21)), (1, .int (zI node))]) (by decide) rfl (Nat.le_of_ble_eq_true rfl) ?_
  intro Γ Q cx rt
  unfold q_H_key at h
  refine v_aload_n cx 0 d_H_key_0 rfl rfl ?_
  refine gf_H_9 cx d_H_key_1 ?_
  refine v_iload_n cx 1 d_H_key_4 rfl rfl ?_
  obtain ⟨hb1, h⟩ := h
  refine v_iald cx zl_22 (by decide) hb1.1 hb1.2 d_H_key_5 (fun hl2 => ?_)
  exact rt _ _ _ _ _ _ (Nat.le_of_ble_eq_true rfl) (Nat.le_of_ble_eq_true rfl) d_H_key_6 hl2 h
