def q_R_longOf (heading : Int) (K : Int → zS → Prop) (σ : zS) : Prop :=
  ((zAnd heading 1) ≠ 0 →
    K 14 σ) ∧ ((zAnd heading 1) = 0 →
    K 10 σ)
abbrev rm_R_longOf : Room := { frames := 0, cells := 0, slots := 0, locals := 0 }
set_option maxRecDepth 20000 in
set_option maxHeartbeats 4000000 in
theorem s_R_longOf {Ω : zO} {ad : Nat → Nat} {heading : Int} {K : Int → zS → Prop} {σ : zS} (hheading : zR heading) (h : q_R_longOf heading K σ) : zMi Ω y_R_longOf (.code y_R_longOf c_R_longOf 1 (some .int)) rm_R_longOf zLy ad [.int (zI heading)] σ K := by
  refine z_ofi (lv := [(0, .int (zI heading))]) (by decide) rfl (Nat.le_of_ble_eq_true rfl) ?_
  intro Γ Q cx rt
  unfold q_R_longOf at h
  refine v_iload_n cx 0 d_R_longOf_0 rfl rfl ?_
  refine v_iconst cx d_R_longOf_1 ?_
  refine v_iand cx d_R_longOf_2 ?_
  refine v_if_ne cx 11 d_R_longOf_3 (by decide) (zR_and _ _) (fun c1 => ?_) (fun c1 => ?_)
  · replace h := h.1 c1
    refine v_bipush cx (by decide) d_R_longOf_11 ?_
    exact rt _ _ _ _ _ _ (Nat.le_of_ble_eq_true rfl) (Nat.le_of_ble_eq_true rfl) d_R_longOf_13 ⟨by decide, by decide⟩ h
  · replace h := h.2 c1
    refine v_bipush cx (by decide) d_R_longOf_6 ?_
    refine v_goto cx 13 d_R_longOf_8 (by decide) ?_
    exact rt _ _ _ _ _ _ (Nat.le_of_ble_eq_true rfl) (Nat.le_of_ble_eq_true rfl) d_R_longOf_13 ⟨by decide, by decide⟩ h
def q_R_opposite (heading : Int) (K : Int → zS → Prop) (σ : zS) : Prop :=
  K (zAnd (heading + 4) 7) σ
abbrev rm_R_opposite : Room := { frames := 0, cells := 0, slots := 0, locals := 0 }
set_option maxRecDepth 20000 in
set_option maxHeartbeats 4000000 in
theorem s_R_opposite {Ω : zO} {ad : Nat → Nat} {heading : Int} {K : Int → zS → Prop} {σ : zS} (hheading : zR heading) (h : q_R_opposite heading K σ) : zMi Ω y_R_opposite (.code y_R_opposite c_R_opposite 1 (some .int)) rm_R_opposite zLy ad [.int (zI heading)] σ K := by
  refine z_ofi (lv := [(0, .int (zI heading))]) (by decide) rfl (Nat.le_of_ble_eq_true rfl) ?_
  intro Γ Q cx rt
  unfold q_R_opposite at h
  refine v_iload_n cx 0 d_R_opposite_0 rfl rfl ?_
  refine v_iconst cx d_R_opposite_1 ?_
  refine v_iadd cx d_R_opposite_2 ?_
  refine v_bipush cx (by decide) d_R_opposite_3 ?_
  refine v_iand cx d_R_opposite_5 ?_
  exact rt _ _ _ _ _ _ (Nat.le_of_ble_eq_true rfl) (Nat.le_of_ble_eq_true rfl) d_R_opposite_6 (zR_and _ _) h
def q_R_eighths (heading : Int) (other : Int) (K : Int → zS → Prop) (σ : zS) : Prop :=
  ∀ x1 : Int, x1 = zAnd (heading - other) 7 → (x1 ≤ 4 →
    K x1 σ) ∧ (4 < x1 →
    zR (8 - x1) ∧ (K (8 - x1) σ))
abbrev rm_R_eighths : Room := { frames := 0, cells := 0, slots := 0, locals := 0 }
set_option maxRecDepth 20000 in
set_option maxHeartbeats 4000000 in
theorem s_R_eighths {Ω : zO} {ad : Nat → Nat} {heading : Int} {other : Int} {K : Int → zS → Prop} {σ : zS} (hheading : zR heading) (hother : zR other) (h : q_R_eighths heading other K σ) : zMi Ω y_R_eighths (.code y_R_eighths c_R_eighths 3 (some .int)) rm_R_eighths zLy ad [.int (zI heading), .int (zI other)] σ K := by
  refine z_ofi (lv := [(0, .int (zI heading)), (1, .int (zI other))]) (by decide) rfl (Nat.le_of_ble_eq_true rfl) ?_
  intro Γ Q cx rt
  unfold q_R_eighths at h
  refine v_iload_n cx 0 d_R_eighths_0 rfl rfl ?_
  refine v_iload_n cx 1 d_R_eighths_1 rfl rfl ?_
  refine v_isub cx d_R_eighths_2 ?_
  refine v_bipush cx (by decide) d_R_eighths_3 ?_
  refine v_iand cx d_R_eighths_5 ?_
  refine v_nm (fun x1 ex1 => ?_)
  replace h := h x1 ex1
  have hx1 : zR x1 := by rw [ex1]; exact (zR_and _ _)
  refine v_istore_n (lv' := [(0, .int (zI heading)), (1, .int (zI other)), (2, .int (zI x1))]) cx d_R_eighths_6 rfl (by decide) rfl rfl ?_
  refine v_iload_n cx 2 d_R_eighths_7 rfl rfl ?_
  refine v_iconst cx d_R_eighths_8 ?_
  refine v_icmp_le cx 19 d_R_eighths_9 (by decide) hx1 ⟨by decide, by decide⟩ (fun c2 => ?_) (fun c2 => ?_)
  · replace h := h.1 c2
    refine v_iload_n cx 2 d_R_eighths_19 rfl rfl ?_
    exact rt _ _ _ _ _ _ (Nat.le_of_ble_eq_true rfl) (Nat.le_of_ble_eq_true rfl) d_R_eighths_20 hx1 h
  · replace h := h.2 c2
    refine v_bipush cx (by decide) d_R_eighths_12 ?_
    refine v_iload_n cx 2 d_R_eighths_14 rfl rfl ?_
    refine v_isub cx d_R_eighths_15 ?_
    refine v_goto cx 20 d_R_eighths_16 (by decide) ?_
    obtain ⟨hr3, h⟩ := h
    exact rt _ _ _ _ _ _ (Nat.le_of_ble_eq_true rfl) (Nat.le_of_ble_eq_true rfl) d_R_eighths_20 hr3 h
def q_T_hasRoom (K : Int → zS → Prop) (σ : zS) : Prop :=
  zR ((σ 1 1) + 20) ∧ ((400 < ((σ 1 1) + 20) →
      K 0 σ) ∧ (((σ 1 1) + 20) ≤ 400 →
      K 1 σ))
abbrev rm_T_hasRoom : Room := { frames := 0, cells := 0, slots := 0, locals := 0 }
set_option maxRecDepth 20000 in
set_option maxHeartbeats 4000000 in
theorem s_T_hasRoom {Ω : zO} {ad : Nat → Nat} {K : Int → zS → Prop} {σ : zS}  (h : q_T_hasRoom K σ) : zMz Ω y_T_hasRoom (.code y_T_hasRoom c_T_hasRoom 1 (some .boolean)) rm_T_hasRoom zLy ad [.ref (ad 1)] σ K := by
  refine z_ofz (lv := [(0, .ref (ad 1))]) (by decide) rfl (Nat.le_of_ble_eq_true rfl) ?_
  intro Γ Q cx rt
  unfold q_T_hasRoom at h
  refine v_aload_n cx 0 d_T_hasRoom_0 rfl rfl ?_
  refine gf_T_13 cx d_T_hasRoom_1 (fun hl1 => ?_)
  refine v_bipush cx (by decide) d_T_hasRoom_4 ?_
  refine v_iadd cx d_T_hasRoom_6 ?_
  refine v_sipush cx (by decide) d_T_hasRoom_7 ?_
  obtain ⟨hr2, h⟩ := h
  refine v_icmp_gt cx 17 d_T_hasRoom_10 (by decide) hr2 ⟨by decide, by decide⟩ (fun c3 => ?_) (fun c3 => ?_)
  · replace h := h.1 c3
    refine v_iconst cx d_T_hasRoom_17 ?_
    exact rt _ _ _ _ _ _ (Nat.le_of_ble_eq_true rfl) (Nat.le_of_ble_eq_true rfl) d_T_hasRoom_18 (Or.inl rfl) h
  · replace h := h.2 c3
    refine v_iconst cx d_T_hasRoom_13 ?_
    refine v_goto cx 18 d_T_hasRoom_14 (by decide) ?_
    exact rt _ _ _ _ _ _ (Nat.le_of_ble_eq_true rfl) (Nat.le_of_ble_eq_true rfl) d_T_hasRoom_18 (Or.inr rfl) h
def q_T_add (number : Int) (K : zS → Prop) (σ : zS) : Prop :=
  ∃ (I3 : Int → zS → Prop) (μ3 : Int → zS → Nat), (I3 24 σ) ∧ ∀ (y1 : Int) (σ2 : zS), I3 y1 σ2 → zR y1 → 
  (y1 < 0 →
    K σ2) ∧ (0 ≤ y1 →
    (400 ≤ (σ2 1 1) →
      K σ2) ∧ ((σ2 1 1) < 400 →
      (0 ≤ σ2 1 1 ∧ σ2 1 1 < 400) ∧ (∀ σ8 : zS, σ8 = zU σ2 2 (σ2 1 1) (zAnd (zShr number y1) 255) → zR ((σ8 1 1) + 1) ∧ (∀ σ11 : zS, σ11 = zU σ8 1 1 ((σ8 1 1) + 1) → I3 (y1 + (-8)) σ11 ∧ zR (y1 + (-8)) ∧ μ3 (y1 + (-8)) σ11 < μ3 y1 σ2))))
abbrev rm_T_add : Room := { frames := 0, cells := 0, slots := 0, locals := 0 }
set_option maxRecDepth 20000 in
set_option maxHeartbeats 4000000 in
theorem s_T_add {Ω : zO} {ad : Nat → Nat} {number : Int} {K : zS → Prop} {σ : zS} (hnumber : zR number) (h : q_T_add number K σ) : zMv Ω y_T_add (.code y_T_add c_T_add 3 none) rm_T_add zLy ad [.ref (ad 1), .int (zI number)] σ K := by
  refine z_ofv (lv := [(0, .ref (ad 1)), (1, .int (zI number))]) (by decide) rfl (Nat.le_of_ble_eq_true rfl) ?_
  intro Γ Q cx rt
  unfold q_T_add at h
  refine v_bipush cx (by decide) d_T_add_0 ?_
  refine v_istore_n (lv' := [(0, .ref (ad 1)), (1, .int (zI number)), (2, .int (zI 24))]) cx d_T_add_2 rfl (by decide) rfl rfl ?_
  obtain ⟨I3, μ3, h0, h⟩ := h
  have L3 : ∀ (N3 : Nat) (y1 : Int) (σ2 : zS), μ3 y1 σ2 < N3 → I3 y1 σ2 → zR y1 → zV Ω Γ rm_T_add 3 Q 0 0 zLy ad σ2 3 [(0, .ref (ad 1)), (1, .int (zI number)), (2, .int (zI y1))] [] := by
    intro N3
    induction N3 with
    | zero => intro y1 σ2 hm; exact absurd hm (Nat.not_lt_zero _)
    | succ N3 ih3 =>
      intro y1 σ2 hmm3 hI hy1
      replace h := h y1 σ2 hI hy1
      refine v_iload_n cx 2 d_T_add_3 rfl rfl ?_
      refine v_if_lt cx 49 d_T_add_4 (by decide) hy1 (fun c3 => ?_) (fun c3 => ?_)
      · replace h := h.1 c3
        exact rt _ _ _ _ _ (Nat.le_of_ble_eq_true rfl) (Nat.le_of_ble_eq_true rfl) d_T_add_49 h
      · replace h := h.2 c3
        refine v_aload_n cx 0 d_T_add_7 rfl rfl ?_
        refine gf_T_13 cx d_T_add_8 (fun hl4 => ?_)
        refine v_sipush cx (by decide) d_T_add_11 ?_
        refine v_icmp_ge cx 49 d_T_add_14 (by decide) hl4 ⟨by decide, by decide⟩ (fun c5 => ?_) (fun c5 => ?_)
        · replace h := h.1 c5
          exact rt _ _ _ _ _ (Nat.le_of_ble_eq_true rfl) (Nat.le_of_ble_eq_true rfl) d_T_add_49 h
        · replace h := h.2 c5
          refine v_aload_n cx 0 d_T_add_17 rfl rfl ?_
          refine gf_T_9 cx d_T_add_18 ?_
          refine v_aload_n cx 0 d_T_add_21 rfl rfl ?_
          refine gf_T_13 cx d_T_add_22 (fun hl6 => ?_)
          refine v_iload_n cx 1 d_T_add_25 rfl rfl ?_
          refine v_iload_n cx 2 d_T_add_26 rfl rfl ?_
          refine v_ishr cx d_T_add_27 ?_
          refine v_sipush cx (by decide) d_T_add_28 ?_
          refine v_iand cx d_T_add_31 ?_
          obtain ⟨hb7, h⟩ := h
          refine v_iast cx zl_2 (by decide) hb7.1 hb7.2 (zR_and _ _) d_T_add_32 ?_
          refine v_ns (fun σ8 eσ8 => ?_)
          replace h := h σ8 eσ8
          refine v_aload_n cx 0 d_T_add_33 rfl rfl ?_
          refine v_dup cx d_T_add_34 rfl ?_
          refine gf_T_13 cx d_T_add_35 (fun hl9 => ?_)
          refine v_iconst cx d_T_add_38 ?_
          refine v_iadd cx d_T_add_39 ?_
          obtain ⟨hr10, h⟩ := h
          refine pf_T_13 cx hr10 d_T_add_40 ?_
          refine v_ns (fun σ11 eσ11 => ?_)
          replace h := h σ11 eσ11
          refine v_iinc (lv' := [(0, .ref (ad 1)), (1, .int (zI number)), (2, .int (zI (y1 + (-8))))]) cx 2 d_T_add_43 rfl (by decide) rfl rfl ?_
          refine v_goto cx 3 d_T_add_46 (by decide) ?_
          obtain ⟨hI2, hz13, hm2⟩ := h
          exact ih3 _ _ (Nat.lt_of_lt_of_le hm2 (Nat.le_of_lt_succ hmm3)) hI2 hz13
  exact L3 _ _ _ (Nat.lt_succ_self _) h0 ⟨by decide, by decide⟩
def q_T_cut (n_ : Int) (K : Int → zS → Prop) (σ : zS) : Prop :=
  (n_ < 0 →
    K 0 σ) ∧ (0 ≤ n_ →
    (n_ ≤ (σ 1 1) →
      ∀ σ4 : zS, σ4 = zU σ 1 1 n_ → K 1 σ4) ∧ ((σ 1 1) < n_ →
      K 0 σ))
abbrev rm_T_cut : Room := { frames := 0, cells := 0, slots := 0, locals := 0 }
set_option maxRecDepth 20000 in
set_option maxHeartbeats 4000000 in
theorem s_T_cut {Ω : zO} {ad : Nat → Nat} {n_ : Int} {K : Int → zS → Prop} {σ : zS} (hn_ : zR n_) (h : q_T_cut n_ K σ) : zMz Ω y_T_cut (.code y_T_cut c_T_cut 2 (some .boolean)) rm_T_cut zLy ad [.ref (ad 1), .int (zI n_)] σ K := by
  refine z_ofz (lv := [(0, .ref (ad 1)), (1, .int (zI n_))]) (by decide) rfl (Nat.le_of_ble_eq_true rfl) ?_
  intro Γ Q cx rt
  unfold q_T_cut at h
  refine v_iload_n cx 1 d_T_cut_0 rfl rfl ?_
  refine v_if_lt cx 12 d_T_cut_1 (by decide) hn_ (fun c1 => ?_) (fun c1 => ?_)
  · replace h := h.1 c1
    refine v_iconst cx d_T_cut_12 ?_
    exact rt _ _ _ _ _ _ (Nat.le_of_ble_eq_true rfl) (Nat.le_of_ble_eq_true rfl) d_T_cut_13 (Or.inl rfl) h
  · replace h := h.2 c1
    refine v_iload_n cx 1 d_T_cut_4 rfl rfl ?_
    refine v_aload_n cx 0 d_T_cut_5 rfl rfl ?_
    refine gf_T_13 cx d_T_cut_6 (fun hl2 => ?_)
    refine v_icmp_le cx 14 d_T_cut_9 (by decide) hn_ hl2 (fun c3 => ?_) (fun c3 => ?_)
    · replace h := h.1 c3
      refine v_aload_n cx 0 d_T_cut_14 rfl rfl ?_
      refine v_iload_n cx 1 d_T_cut_15 rfl rfl ?_
      refine pf_T_13 cx hn_ d_T_cut_16 ?_
      refine v_ns (fun σ4 eσ4 => ?_)
      replace h := h σ4 eσ4
      refine v_iconst cx d_T_cut_19 ?_
      exact rt _ _ _ _ _ _ (Nat.le_of_ble_eq_true rfl) (Nat.le_of_ble_eq_true rfl) d_T_cut_20 (Or.inr rfl) h
    · replace h := h.2 c3
      refine v_iconst cx d_T_cut_12 ?_
      exact rt _ _ _ _ _ _ (Nat.le_of_ble_eq_true rfl) (Nat.le_of_ble_eq_true rfl) d_T_cut_13 (Or.inl rfl) h
def q_T_size (K : Int → zS → Prop) (σ : zS) : Prop :=
  K (σ 1 1) σ
abbrev rm_T_size : Room := { frames := 0, cells := 0, slots := 0, locals := 0 }
set_option maxRecDepth 20000 in
set_option maxHeartbeats 4000000 in
theorem s_T_size {Ω : zO} {ad : Nat → Nat} {K : Int → zS → Prop} {σ : zS}  (h : q_T_size K σ) : zMi Ω y_T_size (.code y_T_size c_T_size 1 (some .int)) rm_T_size zLy ad [.ref (ad 1)] σ K := by
  refine z_ofi (lv := [(0, .ref (ad 1))]) (by decide) rfl (Nat.le_of_ble_eq_true rfl) ?_
  intro Γ Q cx rt
  unfold q_T_size at h
  refine v_aload_n cx 0 d_T_size_0 rfl rfl ?_
  refine gf_T_13 cx d_T_size_1 (fun hl1 => ?_)
  exact rt _ _ _ _ _ _ (Nat.le_of_ble_eq_true rfl) (Nat.le_of_ble_eq_true rfl) d_T_size_4 hl1 h
def q_T_byteAt (k_ : Int) (K : Int → zS → Prop) (σ : zS) : Prop :=
  (k_ < 0 →
    K 0 σ) ∧ (0 ≤ k_ →
    (400 ≤ k_ →
      K 0 σ) ∧ (k_ < 400 →
      (0 ≤ k_ ∧ k_ < 400) ∧ (K (σ 2 k_) σ)))
abbrev rm_T_byteAt : Room := { frames := 0, cells := 0, slots := 0, locals := 0 }
set_option maxRecDepth 20000 in
set_option maxHeartbeats 4000000 in
theorem s_T_byteAt {Ω : zO} {ad : Nat → Nat} {k_ : Int} {K : Int → zS → Prop} {σ : zS} (hk_ : zR k_) (h : q_T_byteAt k_ K σ) : zMi Ω y_T_byteAt (.code y_T_byteAt c_T_byteAt 2 (some .int)) rm_T_byteAt zLy ad [.ref (ad 1), .int (zI k_)] σ K := by
  refine z_ofi (lv := [(0, .ref (ad 1)), (1, .int (zI k_))]) (by decide) rfl (Nat.le_of_ble_eq_true rfl) ?_
  intro Γ Q cx rt
  unfold q_T_byteAt at h
  refine v_iload_n cx 1 d_T_byteAt_0 rfl rfl ?_
  refine v_if_lt cx 20 d_T_byteAt_1 (by decide) hk_ (fun c1 => ?_) (fun c1 => ?_)
  · replace h := h.1 c1
    refine v_iconst cx d_T_byteAt_20 ?_
    exact rt _ _ _ _ _ _ (Nat.le_of_ble_eq_true rfl) (Nat.le_of_ble_eq_true rfl) d_T_byteAt_21 ⟨by decide, by decide⟩ h
  · replace h := h.2 c1
    refine v_iload_n cx 1 d_T_byteAt_4 rfl rfl ?_
    refine v_sipush cx (by decide) d_T_byteAt_5 ?_
    refine v_icmp_ge cx 20 d_T_byteAt_8 (by decide) hk_ ⟨by decide, by decide⟩ (fun c2 => ?_) (fun c2 => ?_)
    · replace h := h.1 c2
      refine v_iconst cx d_T_byteAt_20 ?_
      exact rt _ _ _ _ _ _ (Nat.le_of_ble_eq_true rfl) (Nat.le_of_ble_eq_true rfl) d_T_byteAt_21 ⟨by decide, by decide⟩ h
    · replace h := h.2 c2
      refine v_aload_n cx 0 d_T_byteAt_11 rfl rfl ?_
      refine gf_T_9 cx d_T_byteAt_12 ?_
      refine v_iload_n cx 1 d_T_byteAt_15 rfl rfl ?_
      obtain ⟨hb3, h⟩ := h
      refine v_iald cx zl_2 (by decide) hb3.1 hb3.2 d_T_byteAt_16 (fun hl4 => ?_)
      refine v_goto cx 21 d_T_byteAt_17 (by decide) ?_
      exact rt _ _ _ _ _ _ (Nat.le_of_ble_eq_true rfl) (Nat.le_of_ble_eq_true rfl) d_T_byteAt_21 hl4 h
def q_L_deep (K : Int → zS → Prop) (σ : zS) : Prop :=
  K (σ 4 1) σ
abbrev rm_L_deep : Room := { frames := 0, cells := 0, slots := 0, locals := 0 }
set_option maxRecDepth 20000 in
set_option maxHeartbeats 4000000 in
theorem s_L_deep {Ω : zO} {ad : Nat → Nat} {K : Int → zS → Prop} {σ : zS}  (h : q_L_deep K σ) : zMi Ω y_L_deep (.code y_L_deep c_L_deep 1 (some .int)) rm_L_deep zLy ad [.ref (ad 3)] σ K := by
  refine z_ofi (lv := [(0, .ref (ad 3))]) (by decide) rfl (Nat.le_of_ble_eq_true rfl) ?_
  intro Γ Q cx rt
  unfold q_L_deep at h
  refine v_aload_n cx 0 d_L_deep_0 rfl rfl ?_
  refine gf_L_11 cx d_L_deep_1 ?_
  refine v_iconst cx d_L_deep_4 ?_
  refine v_iald cx zl_4 (by decide) (by decide) (by decide) d_L_deep_5 (fun hl1 => ?_)
  exact rt _ _ _ _ _ _ (Nat.le_of_ble_eq_true rfl) (Nat.le_of_ble_eq_true rfl) d_L_deep_6 hl1 h
def q_L_wide (K : Int → zS → Prop) (σ : zS) : Prop :=
  K (σ 4 0) σ
abbrev rm_L_wide : Room := { frames := 0, cells := 0, slots := 0, locals := 0 }
set_option maxRecDepth 20000 in
set_option maxHeartbeats 4000000 in
theorem s_L_wide {Ω : zO} {ad : Nat → Nat} {K : Int → zS → Prop} {σ : zS}  (h : q_L_wide K σ) : zMi Ω y_L_wide (.code y_L_wide c_L_wide 1 (some .int)) rm_L_wide zLy ad [.ref (ad 3)] σ K := by
  refine z_ofi (lv := [(0, .ref (ad 3))]) (by decide) rfl (Nat.le_of_ble_eq_true rfl) ?_
  intro Γ Q cx rt
  unfold q_L_wide at h
  refine v_aload_n cx 0 d_L_wide_0 rfl rfl ?_
  refine gf_L_11 cx d_L_wide_1 ?_
  refine v_iconst cx d_L_wide_4 ?_
  refine v_iald cx zl_4 (by decide) (by decide) (by decide) d_L_wide_5 (fun hl1 => ?_)
  exact rt _ _ _ _ _ _ (Nat.le_of_ble_eq_true rfl) (Nat.le_of_ble_eq_true rfl) d_L_wide_6 hl1 h
def q_L_layOutPlace (row : Int) (column : Int) (K : zS → Prop) (σ : zS) : Prop :=
  q_L_wide (fun r2 σ1 =>
    ∀ x3 : Int, x3 = ((row * r2) + column) * 8 → ∃ (I15 : Int → zS → Prop) (μ15 : Int → zS → Nat), (I15 0 σ1) ∧ ∀ (y4 : Int) (σ5 : zS), I15 y4 σ5 → zR y4 → 
    (8 ≤ y4 →
      K σ5) ∧ (y4 < 8 →
      (0 ≤ y4 ∧ y4 < 8) ∧ (∀ x9 : Int, x9 = row + (zSV 3 y4) → ∀ x11 : Int, x11 = column + (zSV 4 y4) → zR x9 ∧ ((x9 < 0 →
            I15 (y4 + 1) σ5 ∧ zR (y4 + 1) ∧ μ15 (y4 + 1) σ5 < μ15 y4 σ5) ∧ (0 ≤ x9 →
            q_L_deep (fun r17 σ16 =>
              (r17 ≤ x9 →
                I15 (y4 + 1) σ16 ∧ zR (y4 + 1) ∧ μ15 (y4 + 1) σ16 < μ15 y4 σ5) ∧ (x9 < r17 →
                zR x11 ∧ ((x11 < 0 →
                    I15 (y4 + 1) σ16 ∧ zR (y4 + 1) ∧ μ15 (y4 + 1) σ16 < μ15 y4 σ5) ∧ (0 ≤ x11 →
                    q_L_wide (fun r26 σ25 =>
                      (r26 ≤ x11 →
                        I15 (y4 + 1) σ25 ∧ zR (y4 + 1) ∧ μ15 (y4 + 1) σ25 < μ15 y4 σ5) ∧ (x11 < r26 →
                        q_L_wide (fun r31 σ30 =>
                          (0 ≤ x3 + y4 ∧ x3 + y4 < 648) ∧ (zR ((x9 * r31) + x11) ∧ (∀ σ34 : zS, σ34 = zU σ30 5 (x3 + y4) ((x9 * r31) + x11) → I15 (y4 + 1) σ34 ∧ zR (y4 + 1) ∧ μ15 (y4 + 1) σ34 < μ15 y4 σ5))) σ25)) σ16)))) σ5))))) σ
abbrev rm_L_layOutPlace : Room := { frames := 1, cells := 0, slots := 0, locals := 20 }
set_option maxRecDepth 20000 in
set_option maxHeartbeats 4000000 in
theorem s_L_layOutPlace {Ω : zO} {ad : Nat → Nat} {row : Int} {column : Int} {K : zS → Prop} {σ : zS} (hrow : zR row) (hcolumn : zR column) (h : q_L_layOutPlace row column K σ) : zMv Ω y_L_layOutPlace (.code y_L_layOutPlace c_L_layOutPlace 7 none) rm_L_layOutPlace zLy ad [.ref (ad 3), .int (zI row), .int (zI column)] σ K := by
  refine z_ofv (lv := [(0, .ref (ad 3)), (1, .int (zI row)), (2, .int (zI column))]) (by decide) rfl (Nat.le_of_ble_eq_true rfl) ?_
  intro Γ Q cx rt
  unfold q_L_layOutPlace at h
  refine v_iload_n cx 1 d_L_layOutPlace_0 rfl rfl ?_
  refine v_aload_n cx 0 d_L_layOutPlace_1 rfl rfl ?_
  refine v_callVi0 (st := [.int (zI row)]) cx (s_L_wide  h) yk_L_wide lk_L_40 zl_3 rfl rfl rfl (Nat.le_of_ble_eq_true rfl) ⟨Nat.le_of_ble_eq_true rfl, Nat.le_of_ble_eq_true rfl⟩ ⟨rfl, rfl⟩ ⟨(Nat.le_of_ble_eq_true rfl), (Nat.le_of_ble_eq_true rfl)⟩ d_L_layOutPlace_2 (fun r2 σ1 hr2 h => ?_)
  refine v_imul cx d_L_layOutPlace_5 ?_
  refine v_iload_n cx 2 d_L_layOutPlace_6 rfl rfl ?_
  refine v_iadd cx d_L_layOutPlace_7 ?_
  refine v_bipush cx (by decide) d_L_layOutPlace_8 ?_
  refine v_imul cx d_L_layOutPlace_10 ?_
  refine v_nm (fun x3 ex3 => ?_)
  replace h := h x3 ex3
  refine v_istore_n (lv' := [(0, .ref (ad 3)), (1, .int (zI row)), (2, .int (zI column)), (3, .int (zI x3))]) cx d_L_layOutPlace_11 rfl (by decide) rfl rfl ?_
  refine v_iconst cx d_L_layOutPlace_12 ?_
  refine v_istore (lv' := [(0, .ref (ad 3)), (1, .int (zI row)), (2, .int (zI column)), (3, .int (zI x3)), (4, .int (zI 0))]) cx d_L_layOutPlace_13 (by decide) rfl rfl ?_
  obtain ⟨I15, μ15, h0, h⟩ := h
  have L15 : ∀ (N15 : Nat) (y4 : Int) (σ5 : zS), μ15 y4 σ5 < N15 → I15 y4 σ5 → zR y4 → zV Ω Γ rm_L_layOutPlace 7 Q 0 0 zLy ad σ5 15 [(0, .ref (ad 3)), (1, .int (zI row)), (2, .int (zI column)), (3, .int (zI x3)), (4, .int (zI y4))] [] := by
    intro N15
    induction N15 with
    | zero => intro y4 σ5 hm; exact absurd hm (Nat.not_lt_zero _)
    | succ N15 ih15 =>
      intro y4 σ5 hmm15 hI hy4
      replace h := h y4 σ5 hI hy4
      refine v_iload cx 4 d_L_layOutPlace_15 rfl ?_
      refine v_bipush cx (by decide) d_L_layOutPlace_17 ?_
      refine v_icmp_ge cx 95 d_L_layOutPlace_19 (by decide) hy4 ⟨by decide, by decide⟩ (fun c6 => ?_) (fun c6 => ?_)
      · replace h := h.1 c6
        exact rt _ _ _ _ _ (Nat.le_of_ble_eq_true rfl) (Nat.le_of_ble_eq_true rfl) d_L_layOutPlace_95 h
      · replace h := h.2 c6
        refine v_iload_n cx 1 d_L_layOutPlace_22 rfl rfl ?_
        refine gs_L_47 cx d_L_layOutPlace_23 ?_
        refine v_iload cx 4 d_L_layOutPlace_26 rfl ?_
        obtain ⟨hb7, h⟩ := h
        refine v_sald cx 3 rfl rfl rfl (by decide) hb7.1 hb7.2 d_L_layOutPlace_28 (fun hl8 => ?_)
        refine v_iadd cx d_L_layOutPlace_29 ?_
        refine v_nm (fun x9 ex9 => ?_)
        replace h := h x9 ex9
        refine v_istore (lv' := [(0, .ref (ad 3)), (1, .int (zI row)), (2, .int (zI column)), (3, .int (zI x3)), (4, .int (zI y4)), (5, .int (zI x9))]) cx d_L_layOutPlace_30 (by decide) rfl rfl ?_
        refine v_iload_n cx 2 d_L_layOutPlace_32 rfl rfl ?_
        refine gs_L_50 cx d_L_layOutPlace_33 ?_
        refine v_iload cx 4 d_L_layOutPlace_36 rfl ?_
        refine v_sald cx 4 rfl rfl rfl (by decide) hb7.1 hb7.2 d_L_layOutPlace_38 (fun hl10 => ?_)
        refine v_iadd cx d_L_layOutPlace_39 ?_
        refine v_nm (fun x11 ex11 => ?_)
        replace h := h x11 ex11
        refine v_istore (lv' := [(0, .ref (ad 3)), (1, .int (zI row)), (2, .int (zI column)), (3, .int (zI x3)), (4, .int (zI y4)), (5, .int (zI x9)), (6, .int (zI x11))]) cx d_L_layOutPlace_40 (by decide) rfl rfl ?_
        refine v_iload cx 5 d_L_layOutPlace_42 rfl ?_
        obtain ⟨hr12, h⟩ := h
        refine v_if_lt cx 89 d_L_layOutPlace_44 (by decide) hr12 (fun c13 => ?_) (fun c13 => ?_)
        · replace h := h.1 c13
          refine v_iinc (lv' := [(0, .ref (ad 3)), (1, .int (zI row)), (2, .int (zI column)), (3, .int (zI x3)), (4, .int (zI (y4 + 1))), (5, .int (zI x9)), (6, .int (zI x11))]) cx 4 d_L_layOutPlace_89 rfl (by decide) rfl rfl ?_
          refine v_goto cx 15 d_L_layOutPlace_92 (by decide) ?_
          refine v_sb (lv' := [(0, .ref (ad 3)), (1, .int (zI row)), (2, .int (zI column)), (3, .int (zI x3)), (4, .int (zI (y4 + 1)))]) [0, 1, 2, 3, 4] rfl ?_
          obtain ⟨hI2, hz15, hm2⟩ := h
          exact ih15 _ _ (Nat.lt_of_lt_of_le hm2 (Nat.le_of_lt_succ hmm15)) hI2 hz15
        · replace h := h.2 c13
          refine v_iload cx 5 d_L_layOutPlace_47 rfl ?_
          refine v_aload_n cx 0 d_L_layOutPlace_49 rfl rfl ?_
          refine v_callVi0 (st := [.int (zI x9)]) cx (s_L_deep  h) yk_L_deep lk_L_36 zl_3 rfl rfl rfl (Nat.le_of_ble_eq_true rfl) ⟨Nat.le_of_ble_eq_true rfl, Nat.le_of_ble_eq_true rfl⟩ ⟨rfl, rfl⟩ ⟨(Nat.le_of_ble_eq_true rfl), (Nat.le_of_ble_eq_true rfl)⟩ d_L_layOutPlace_50 (fun r17 σ16 hr17 h => ?_)
          refine v_icmp_ge cx 89 d_L_layOutPlace_53 (by decide) hr12 hr17 (fun c18 => ?_) (fun c18 => ?_)
          · replace h := h.1 c18
            refine v_iinc (lv' := [(0, .ref (ad 3)), (1, .int (zI row)), (2, .int (zI column)), (3, .int (zI x3)), (4, .int (zI (y4 + 1))), (5, .int (zI x9)), (6, .int (zI x11))]) cx 4 d_L_layOutPlace_89 rfl (by decide) rfl rfl ?_
            refine v_goto cx 15 d_L_layOutPlace_92 (by decide) ?_
            refine v_sb (lv' := [(0, .ref (ad 3)), (1, .int (zI row)), (2, .int (zI column)), (3, .int (zI x3)), (4, .int (zI (y4 + 1)))]) [0, 1, 2, 3, 4] rfl ?_
            obtain ⟨hI2, hz20, hm2⟩ := h
            exact ih15 _ _ (Nat.lt_of_lt_of_le hm2 (Nat.le_of_lt_succ hmm15)) hI2 hz20
          · replace h := h.2 c18
            refine v_iload cx 6 d_L_layOutPlace_56 rfl ?_
            obtain ⟨hr21, h⟩ := h
            refine v_if_lt cx 89 d_L_layOutPlace_58 (by decide) hr21 (fun c22 => ?_) (fun c22 => ?_)
            · replace h := h.1 c22
              refine v_iinc (lv' := [(0, .ref (ad 3)), (1, .int (zI row)), (2, .int (zI column)), (3, .int (zI x3)), (4, .int (zI (y4 + 1))), (5, .int (zI x9)), (6, .int (zI x11))]) cx 4 d_L_layOutPlace_89 rfl (by decide) rfl rfl ?_
              refine v_goto cx 15 d_L_layOutPlace_92 (by decide) ?_
              refine v_sb (lv' := [(0, .ref (ad 3)), (1, .int (zI row)), (2, .int (zI column)), (3, .int (zI x3)), (4, .int (zI (y4 + 1)))]) [0, 1, 2, 3, 4] rfl ?_
              obtain ⟨hI2, hz24, hm2⟩ := h
              exact ih15 _ _ (Nat.lt_of_lt_of_le hm2 (Nat.le_of_lt_succ hmm15)) hI2 hz24
            · replace h := h.2 c22
              refine v_iload cx 6 d_L_layOutPlace_61 rfl ?_
              refine v_aload_n cx 0 d_L_layOutPlace_63 rfl rfl ?_
              refine v_callVi0 (st := [.int (zI x11)]) cx (s_L_wide  h) yk_L_wide lk_L_40 zl_3 rfl rfl rfl (Nat.le_of_ble_eq_true rfl) ⟨Nat.le_of_ble_eq_true rfl, Nat.le_of_ble_eq_true rfl⟩ ⟨rfl, rfl⟩ ⟨(Nat.le_of_ble_eq_true rfl), (Nat.le_of_ble_eq_true rfl)⟩ d_L_layOutPlace_64 (fun r26 σ25 hr26 h => ?_)
              refine v_icmp_ge cx 89 d_L_layOutPlace_67 (by decide) hr21 hr26 (fun c27 => ?_) (fun c27 => ?_)
              · replace h := h.1 c27
                refine v_iinc (lv' := [(0, .ref (ad 3)), (1, .int (zI row)), (2, .int (zI column)), (3, .int (zI x3)), (4, .int (zI (y4 + 1))), (5, .int (zI x9)), (6, .int (zI x11))]) cx 4 d_L_layOutPlace_89 rfl (by decide) rfl rfl ?_
                refine v_goto cx 15 d_L_layOutPlace_92 (by decide) ?_
                refine v_sb (lv' := [(0, .ref (ad 3)), (1, .int (zI row)), (2, .int (zI column)), (3, .int (zI x3)), (4, .int (zI (y4 + 1)))]) [0, 1, 2, 3, 4] rfl ?_
                obtain ⟨hI2, hz29, hm2⟩ := h
                exact ih15 _ _ (Nat.lt_of_lt_of_le hm2 (Nat.le_of_lt_succ hmm15)) hI2 hz29
              · replace h := h.2 c27
                refine v_aload_n cx 0 d_L_layOutPlace_70 rfl rfl ?_
                refine gf_L_15 cx d_L_layOutPlace_71 ?_
                refine v_iload_n cx 3 d_L_layOutPlace_74 rfl rfl ?_
                refine v_iload cx 4 d_L_layOutPlace_75 rfl ?_
                refine v_iadd cx d_L_layOutPlace_77 ?_
                refine v_iload cx 5 d_L_layOutPlace_78 rfl ?_
                refine v_aload_n cx 0 d_L_layOutPlace_80 rfl rfl ?_
                refine v_callVi0 (st := [.int (zI x9), .int (zI (x3 + y4)), .ref (ad 5)]) cx (s_L_wide  h) yk_L_wide lk_L_40 zl_3 rfl rfl rfl (Nat.le_of_ble_eq_true rfl) ⟨Nat.le_of_ble_eq_true rfl, Nat.le_of_ble_eq_true rfl⟩ ⟨rfl, rfl⟩ ⟨(Nat.le_of_ble_eq_true rfl), (Nat.le_of_ble_eq_true rfl)⟩ d_L_layOutPlace_81 (fun r31 σ30 hr31 h => ?_)
                refine v_imul cx d_L_layOutPlace_84 ?_
                refine v_iload cx 6 d_L_layOutPlace_85 rfl ?_
                refine v_iadd cx d_L_layOutPlace_87 ?_
                obtain ⟨hb32, h⟩ := h
                obtain ⟨hr33, h⟩ := h
                refine v_iast cx zl_5 (by decide) hb32.1 hb32.2 hr33 d_L_layOutPlace_88 ?_
                refine v_ns (fun σ34 eσ34 => ?_)
                replace h := h σ34 eσ34
                refine v_iinc (lv' := [(0, .ref (ad 3)), (1, .int (zI row)), (2, .int (zI column)), (3, .int (zI x3)), (4, .int (zI (y4 + 1))), (5, .int (zI x9)), (6, .int (zI x11))]) cx 4 d_L_layOutPlace_89 rfl (by decide) rfl rfl ?_
                refine v_goto cx 15 d_L_layOutPlace_92 (by decide) ?_
                refine v_sb (lv' := [(0, .ref (ad 3)), (1, .int (zI row)), (2, .int (zI column)), (3, .int (zI x3)), (4, .int (zI (y4 + 1)))]) [0, 1, 2, 3, 4] rfl ?_
                obtain ⟨hI2, hz36, hm2⟩ := h
                exact ih15 _ _ (Nat.lt_of_lt_of_le hm2 (Nat.le_of_lt_succ hmm15)) hI2 hz36
  exact L15 _ _ _ (Nat.lt_succ_self _) h0 ⟨by decide, by decide⟩
def q_L_layOut (K : zS → Prop) (σ : zS) : Prop :=
  q_J_fill2 5 648 (-1) (fun σ1 =>
    ∃ (I10 : Int → zS → Prop) (μ10 : Int → zS → Nat), (I10 0 σ1) ∧ ∀ (y2 : Int) (σ3 : zS), I10 y2 σ3 → zR y2 → 
    q_L_deep (fun r5 σ4 =>
      (r5 ≤ y2 →
        K σ4) ∧ (y2 < r5 →
        ∃ (I20 : Int → zS → Prop) (μ20 : Int → zS → Nat), (I20 0 σ4) ∧ ∀ (y7 : Int) (σ8 : zS), I20 y7 σ8 → zR y7 → 
        q_L_wide (fun r10 σ9 =>
          (r10 ≤ y7 →
            I10 (y2 + 1) σ9 ∧ zR (y2 + 1) ∧ μ10 (y2 + 1) σ9 < μ10 y2 σ3) ∧ (y7 < r10 →
            q_L_layOutPlace y2 y7 (fun σ14 =>
              I20 (y7 + 1) σ14 ∧ zR (y7 + 1) ∧ μ20 (y7 + 1) σ14 < μ20 y7 σ8) σ9)) σ8)) σ3) σ
abbrev rm_L_layOut : Room := { frames := 2, cells := 0, slots := 0, locals := 46 }
set_option maxRecDepth 20000 in
set_option maxHeartbeats 4000000 in
theorem s_L_layOut {Ω : zO} {ad : Nat → Nat} {K : zS → Prop} {σ : zS}  (h : q_L_layOut K σ) : zMv Ω y_L_layOut (.code y_L_layOut c_L_layOut 3 none) rm_L_layOut zLy ad [.ref (ad 3)] σ K := by
  refine z_ofv (lv := [(0, .ref (ad 3))]) (by decide) rfl (Nat.le_of_ble_eq_true rfl) ?_
  intro Γ Q cx rt
  unfold q_L_layOut at h
  refine v_aload_n cx 0 d_L_layOut_0 rfl rfl ?_
  refine gf_L_15 cx d_L_layOut_1 ?_
  refine v_iconst cx d_L_layOut_4 ?_
  refine v_callSv0 (st := []) cx (s_J_fill2 (o := 5) zl_5 (by decide) ⟨by decide, by decide⟩ h) yk_J_fill2 lk_L_18 rfl rfl (Nat.le_of_ble_eq_true rfl) ⟨Nat.le_of_ble_eq_true rfl, Nat.le_of_ble_eq_true rfl⟩ ⟨rfl, rfl⟩ ⟨Nat.le_of_ble_eq_true rfl, Nat.le_of_ble_eq_true rfl⟩ d_L_layOut_5 (fun σ1 h => ?_)
  refine v_iconst cx d_L_layOut_8 ?_
  refine v_istore_n (lv' := [(0, .ref (ad 3)), (1, .int (zI 0))]) cx d_L_layOut_9 rfl (by decide) rfl rfl ?_
  obtain ⟨I10, μ10, h0, h⟩ := h
  have L10 : ∀ (N10 : Nat) (y2 : Int) (σ3 : zS), μ10 y2 σ3 < N10 → I10 y2 σ3 → zR y2 → zV Ω Γ rm_L_layOut 3 Q 0 0 zLy ad σ3 10 [(0, .ref (ad 3)), (1, .int (zI y2))] [] := by
    intro N10
    induction N10 with
    | zero => intro y2 σ3 hm; exact absurd hm (Nat.not_lt_zero _)
    | succ N10 ih10 =>
      intro y2 σ3 hmm10 hI hy2
      replace h := h y2 σ3 hI hy2
      refine v_iload_n cx 1 d_L_layOut_10 rfl rfl ?_
      refine v_aload_n cx 0 d_L_layOut_11 rfl rfl ?_
      refine v_callVi0 (st := [.int (zI y2)]) cx (s_L_deep  h) yk_L_deep lk_L_36 zl_3 rfl rfl rfl (Nat.le_of_ble_eq_true rfl) ⟨Nat.le_of_ble_eq_true rfl, Nat.le_of_ble_eq_true rfl⟩ ⟨rfl, rfl⟩ ⟨(Nat.le_of_ble_eq_true rfl), (Nat.le_of_ble_eq_true rfl)⟩ d_L_layOut_12 (fun r5 σ4 hr5 h => ?_)
      refine v_icmp_ge cx 46 d_L_layOut_15 (by decide) hy2 hr5 (fun c6 => ?_) (fun c6 => ?_)
      · replace h := h.1 c6
        exact rt _ _ _ _ _ (Nat.le_of_ble_eq_true rfl) (Nat.le_of_ble_eq_true rfl) d_L_layOut_46 h
      · replace h := h.2 c6
        refine v_iconst cx d_L_layOut_18 ?_
        refine v_istore_n (lv' := [(0, .ref (ad 3)), (1, .int (zI y2)), (2, .int (zI 0))]) cx d_L_layOut_19 rfl (by decide) rfl rfl ?_
        obtain ⟨I20, μ20, h0, h⟩ := h
        have L20 : ∀ (N20 : Nat) (y7 : Int) (σ8 : zS), μ20 y7 σ8 < N20 → I20 y7 σ8 → zR y7 → zV Ω Γ rm_L_layOut 3 Q 0 0 zLy ad σ8 20 [(0, .ref (ad 3)), (1, .int (zI y2)), (2, .int (zI y7))] [] := by
          intro N20
          induction N20 with
          | zero => intro y7 σ8 hm; exact absurd hm (Nat.not_lt_zero _)
          | succ N20 ih20 =>
            intro y7 σ8 hmm20 hI hy7
            replace h := h y7 σ8 hI hy7
            refine v_iload_n cx 2 d_L_layOut_20 rfl rfl ?_
            refine v_aload_n cx 0 d_L_layOut_21 rfl rfl ?_
            refine v_callVi0 (st := [.int (zI y7)]) cx (s_L_wide  h) yk_L_wide lk_L_40 zl_3 rfl rfl rfl (Nat.le_of_ble_eq_true rfl) ⟨Nat.le_of_ble_eq_true rfl, Nat.le_of_ble_eq_true rfl⟩ ⟨rfl, rfl⟩ ⟨(Nat.le_of_ble_eq_true rfl), (Nat.le_of_ble_eq_true rfl)⟩ d_L_layOut_22 (fun r10 σ9 hr10 h => ?_)
            refine v_icmp_ge cx 40 d_L_layOut_25 (by decide) hy7 hr10 (fun c11 => ?_) (fun c11 => ?_)
            · replace h := h.1 c11
              refine v_iinc (lv' := [(0, .ref (ad 3)), (1, .int (zI (y2 + 1))), (2, .int (zI y7))]) cx 1 d_L_layOut_40 rfl (by decide) rfl rfl ?_
              refine v_goto cx 10 d_L_layOut_43 (by decide) ?_
              refine v_sb (lv' := [(0, .ref (ad 3)), (1, .int (zI (y2 + 1)))]) [0, 1] rfl ?_
              obtain ⟨hI2, hz13, hm2⟩ := h
              exact ih10 _ _ (Nat.lt_of_lt_of_le hm2 (Nat.le_of_lt_succ hmm10)) hI2 hz13
            · replace h := h.2 c11
              refine v_aload_n cx 0 d_L_layOut_28 rfl rfl ?_
              refine v_iload_n cx 1 d_L_layOut_29 rfl rfl ?_
              refine v_iload_n cx 2 d_L_layOut_30 rfl rfl ?_
              refine v_callVv0 (st := []) cx (s_L_layOutPlace hy2 hy7 h) yk_L_layOutPlace lk_L_43 zl_3 rfl rfl rfl (Nat.le_of_ble_eq_true rfl) ⟨Nat.le_of_ble_eq_true rfl, Nat.le_of_ble_eq_true rfl⟩ ⟨rfl, rfl⟩ ⟨(Nat.le_of_ble_eq_true rfl), (Nat.le_of_ble_eq_true rfl)⟩ d_L_layOut_31 (fun σ14 h => ?_)
              refine v_iinc (lv' := [(0, .ref (ad 3)), (1, .int (zI y2)), (2, .int (zI (y7 + 1)))]) cx 2 d_L_layOut_34 rfl (by decide) rfl rfl ?_
              refine v_goto cx 20 d_L_layOut_37 (by decide) ?_
              obtain ⟨hI2, hz16, hm2⟩ := h
              exact ih20 _ _ (Nat.lt_of_lt_of_le hm2 (Nat.le_of_lt_succ hmm20)) hI2 hz16
        exact L20 _ _ _ (Nat.lt_succ_self _) h0 ⟨by decide, by decide⟩
  exact L10 _ _ _ (Nat.lt_succ_self _) h0 ⟨by decide, by decide⟩
def q_L_take_7 (first : Int) (K : zS → Prop) (σ : zS) : Prop :=
  0 ≤ first ∧ (first + 499 ≤ 499 ∧ (∀ σ3 : zS, σ3 = zW σ 4 (zCpy (σ 7) (σ 4) first 0 499) → q_L_layOut (fun σ4 =>
        K σ4) σ3))
abbrev rm_L_take_7 : Room := { frames := 3, cells := 0, slots := 0, locals := 68 }
set_option maxRecDepth 20000 in
set_option maxHeartbeats 4000000 in
theorem s_L_take_7 {Ω : zO} {ad : Nat → Nat} {first : Int} {K : zS → Prop} {σ : zS} (hfirst : zR first) (h : q_L_take_7 first K σ) : zMv Ω y_L_take (.code y_L_take c_L_take 3 none) rm_L_take_7 zLy ad [.ref (ad 3), .ref (ad 7), .int (zI first)] σ K := by
  refine z_ofv (lv := [(0, .ref (ad 3)), (1, .ref (ad 7)), (2, .int (zI first))]) (by decide) rfl (Nat.le_of_ble_eq_true rfl) ?_
  intro Γ Q cx rt
  unfold q_L_take_7 at h
  refine v_aload_n cx 1 d_L_take_0 rfl rfl ?_
  refine v_iload_n cx 2 d_L_take_1 rfl rfl ?_
  refine v_aload_n cx 0 d_L_take_2 rfl rfl ?_
  refine gf_L_11 cx d_L_take_3 ?_
  refine v_iconst cx d_L_take_6 ?_
  refine v_sipush cx (by decide) d_L_take_7 ?_
  obtain ⟨hz1, h⟩ := h
  obtain ⟨hz2, h⟩ := h
  refine v_copy cx zl_7 zl_4 lk_L_27 zcopy.1 zcopy.2.1 zcopy.2.2 hz1 (by decide) (by decide) hz2 (by decide) (by decide) (by decide) (Nat.le_of_ble_eq_true rfl) (Nat.le_of_ble_eq_true rfl) d_L_take_10 ?_
  refine v_ns (fun σ3 eσ3 => ?_)
  replace h := h σ3 eσ3
  refine v_aload_n cx 0 d_L_take_13 rfl rfl ?_
  refine v_callVv0 (st := []) cx (s_L_layOut  h) yk_L_layOut lk_L_33 zl_3 rfl rfl rfl (Nat.le_of_ble_eq_true rfl) ⟨Nat.le_of_ble_eq_true rfl, Nat.le_of_ble_eq_true rfl⟩ ⟨rfl, rfl⟩ ⟨(Nat.le_of_ble_eq_true rfl), (Nat.le_of_ble_eq_true rfl)⟩ d_L_take_14 (fun σ4 h => ?_)
  exact rt _ _ _ _ _ (Nat.le_of_ble_eq_true rfl) (Nat.le_of_ble_eq_true rfl) d_L_take_17 h
def q_L_take_40 (first : Int) (K : zS → Prop) (σ : zS) : Prop :=
  0 ≤ first ∧ (first + 499 ≤ 499 ∧ (∀ σ3 : zS, σ3 = zW σ 4 (zCpy (σ 40) (σ 4) first 0 499) → q_L_layOut (fun σ4 =>
        K σ4) σ3))
abbrev rm_L_take_40 : Room := { frames := 3, cells := 0, slots := 0, locals := 68 }
set_option maxRecDepth 20000 in
set_option maxHeartbeats 4000000 in
theorem s_L_take_40 {Ω : zO} {ad : Nat → Nat} {first : Int} {K : zS → Prop} {σ : zS} (hfirst : zR first) (h : q_L_take_40 first K σ) : zMv Ω y_L_take (.code y_L_take c_L_take 3 none) rm_L_take_40 zLy ad [.ref (ad 3), .ref (ad 40), .int (zI first)] σ K := by
  refine z_ofv (lv := [(0, .ref (ad 3)), (1, .ref (ad 40)), (2, .int (zI first))]) (by decide) rfl (Nat.le_of_ble_eq_true rfl) ?_
  intro Γ Q cx rt
  unfold q_L_take_40 at h
  refine v_aload_n cx 1 d_L_take_0 rfl rfl ?_
  refine v_iload_n cx 2 d_L_take_1 rfl rfl ?_
  refine v_aload_n cx 0 d_L_take_2 rfl rfl ?_
  refine gf_L_11 cx d_L_take_3 ?_
  refine v_iconst cx d_L_take_6 ?_
  refine v_sipush cx (by decide) d_L_take_7 ?_
  obtain ⟨hz1, h⟩ := h
  obtain ⟨hz2, h⟩ := h
  refine v_copy cx zl_40 zl_4 lk_L_27 zcopy.1 zcopy.2.1 zcopy.2.2 hz1 (by decide) (by decide) hz2 (by decide) (by decide) (by decide) (Nat.le_of_ble_eq_true rfl) (Nat.le_of_ble_eq_true rfl) d_L_take_10 ?_
  refine v_ns (fun σ3 eσ3 => ?_)
  replace h := h σ3 eσ3
  refine v_aload_n cx 0 d_L_take_13 rfl rfl ?_
  refine v_callVv0 (st := []) cx (s_L_layOut  h) yk_L_layOut lk_L_33 zl_3 rfl rfl rfl (Nat.le_of_ble_eq_true rfl) ⟨Nat.le_of_ble_eq_true rfl, Nat.le_of_ble_eq_true rfl⟩ ⟨rfl, rfl⟩ ⟨(Nat.le_of_ble_eq_true rfl), (Nat.le_of_ble_eq_true rfl)⟩ d_L_take_14 (fun σ4 h => ?_)
  exact rt _ _ _ _ _ (Nat.le_of_ble_eq_true rfl) (Nat.le_of_ble_eq_true rfl) d_L_take_17 h
def q_L_take_10 (first : Int) (K : zS → Prop) (σ : zS) : Prop :=
  0 ≤ first ∧ (first + 499 ≤ 3992 ∧ (∀ σ3 : zS, σ3 = zW σ 4 (zCpy (σ 10) (σ 4) first 0 499) → q_L_layOut (fun σ4 =>
        K σ4) σ3))
abbrev rm_L_take_10 : Room := { frames := 3, cells := 0, slots := 0, locals := 68 }
set_option maxRecDepth 20000 in
set_option maxHeartbeats 4000000 in
theorem s_L_take_10 {Ω : zO} {ad : Nat → Nat} {first : Int} {K : zS → Prop} {σ : zS} (hfirst : zR first) (h : q_L_take_10 first K σ) : zMv Ω y_L_take (.code y_L_take c_L_take 3 none) rm_L_take_10 zLy ad [.ref (ad 3), .ref (ad 10), .int (zI first)] σ K := by
  refine z_ofv (lv := [(0, .ref (ad 3)), (1, .ref (ad 10)), (2, .int (zI first))]) (by decide) rfl (Nat.le_of_ble_eq_true rfl) ?_
  intro Γ Q cx rt
  unfold q_L_take_10 at h
  refine v_aload_n cx 1 d_L_take_0 rfl rfl ?_
  refine v_iload_n cx 2 d_L_take_1 rfl rfl ?_
  refine v_aload_n cx 0 d_L_take_2 rfl rfl ?_
  refine gf_L_11 cx d_L_take_3 ?_
  refine v_iconst cx d_L_take_6 ?_
  refine v_sipush cx (by decide) d_L_take_7 ?_
  obtain ⟨hz1, h⟩ := h
  obtain ⟨hz2, h⟩ := h
  refine v_copy cx zl_10 zl_4 lk_L_27 zcopy.1 zcopy.2.1 zcopy.2.2 hz1 (by decide) (by decide) hz2 (by decide) (by decide) (by decide) (Nat.le_of_ble_eq_true rfl) (Nat.le_of_ble_eq_true rfl) d_L_take_10 ?_
  refine v_ns (fun σ3 eσ3 => ?_)
  replace h := h σ3 eσ3
  refine v_aload_n cx 0 d_L_take_13 rfl rfl ?_
  refine v_callVv0 (st := []) cx (s_L_layOut  h) yk_L_layOut lk_L_33 zl_3 rfl rfl rfl (Nat.le_of_ble_eq_true rfl) ⟨Nat.le_of_ble_eq_true rfl, Nat.le_of_ble_eq_true rfl⟩ ⟨rfl, rfl⟩ ⟨(Nat.le_of_ble_eq_true rfl), (Nat.le_of_ble_eq_true rfl)⟩ d_L_take_14 (fun σ4 h => ?_)
  exact rt _ _ _ _ _ (Nat.le_of_ble_eq_true rfl) (Nat.le_of_ble_eq_true rfl) d_L_take_17 h
def q_L_copyTo_40 (first : Int) (K : zS → Prop) (σ : zS) : Prop :=
  0 ≤ first ∧ (first + 499 ≤ 499 ∧ (∀ σ3 : zS, σ3 = zW σ 40 (zCpy (σ 4) (σ 40) 0 first 499) → K σ3))
abbrev rm_L_copyTo_40 : Room := { frames := 1, cells := 0, slots := 0, locals := 60 }
set_option maxRecDepth 20000 in
set_option maxHeartbeats 4000000 in
theorem s_L_copyTo_40 {Ω : zO} {ad : Nat → Nat} {first : Int} {K : zS → Prop} {σ : zS} (hfirst : zR first) (h : q_L_copyTo_40 first K σ) : zMv Ω y_L_copyTo (.code y_L_copyTo c_L_copyTo 3 none) rm_L_copyTo_40 zLy ad [.ref (ad 3), .ref (ad 40), .int (zI first)] σ K := by
  refine z_ofv (lv := [(0, .ref (ad 3)), (1, .ref (ad 40)), (2, .int (zI first))]) (by decide) rfl (Nat.le_of_ble_eq_true rfl) ?_
  intro Γ Q cx rt
  unfold q_L_copyTo_40 at h
  refine v_aload_n cx 0 d_L_copyTo_0 rfl rfl ?_
  refine gf_L_11 cx d_L_copyTo_1 ?_
  refine v_iconst cx d_L_copyTo_4 ?_
  refine v_aload_n cx 1 d_L_copyTo_5 rfl rfl ?_
  refine v_iload_n cx 2 d_L_copyTo_6 rfl rfl ?_
  refine v_sipush cx (by decide) d_L_copyTo_7 ?_
  obtain ⟨hz1, h⟩ := h
  obtain ⟨hz2, h⟩ := h
  refine v_copy cx zl_4 zl_40 lk_L_27 zcopy.1 zcopy.2.1 zcopy.2.2 (by decide) hz1 (by decide) (by decide) hz2 (by decide) (by decide) (Nat.le_of_ble_eq_true rfl) (Nat.le_of_ble_eq_true rfl) d_L_copyTo_10 ?_
  refine v_ns (fun σ3 eσ3 => ?_)
  replace h := h σ3 eσ3
  exact rt _ _ _ _ _ (Nat.le_of_ble_eq_true rfl) (Nat.le_of_ble_eq_true rfl) d_L_copyTo_13 h
def q_L_copyTo_10 (first : Int) (K : zS → Prop) (σ : zS) : Prop :=
  0 ≤ first ∧ (first + 499 ≤ 3992 ∧ (∀ σ3 : zS, σ3 = zW σ 10 (zCpy (σ 4) (σ 10) 0 first 499) → K σ3))
abbrev rm_L_copyTo_10 : Room := { frames := 1, cells := 0, slots := 0, locals := 60 }
set_option maxRecDepth 20000 in
set_option maxHeartbeats 4000000 in
theorem s_L_copyTo_10 {Ω : zO} {ad : Nat → Nat} {first : Int} {K : zS → Prop} {σ : zS} (hfirst : zR first) (h : q_L_copyTo_10 first K σ) : zMv Ω y_L_copyTo (.code y_L_copyTo c_L_copyTo 3 none) rm_L_copyTo_10 zLy ad [.ref (ad 3), .ref (ad 10), .int (zI first)] σ K := by
  refine z_ofv (lv := [(0, .ref (ad 3)), (1, .ref (ad 10)), (2, .int (zI first))]) (by decide) rfl (Nat.le_of_ble_eq_true rfl) ?_
  intro Γ Q cx rt
  unfold q_L_copyTo_10 at h
  refine v_aload_n cx 0 d_L_copyTo_0 rfl rfl ?_
  refine gf_L_11 cx d_L_copyTo_1 ?_
  refine v_iconst cx d_L_copyTo_4 ?_
  refine v_aload_n cx 1 d_L_copyTo_5 rfl rfl ?_
  refine v_iload_n cx 2 d_L_copyTo_6 rfl rfl ?_
  refine v_sipush cx (by decide) d_L_copyTo_7 ?_
  obtain ⟨hz1, h⟩ := h
  obtain ⟨hz2, h⟩ := h
  refine v_copy cx zl_4 zl_10 lk_L_27 zcopy.1 zcopy.2.1 zcopy.2.2 (by decide) hz1 (by decide) (by decide) hz2 (by decide) (by decide) (Nat.le_of_ble_eq_true rfl) (Nat.le_of_ble_eq_true rfl) d_L_copyTo_10 ?_
  refine v_ns (fun σ3 eσ3 => ?_)
  replace h := h σ3 eσ3
  exact rt _ _ _ _ _ (Nat.le_of_ble_eq_true rfl) (Nat.le_of_ble_eq_true rfl) d_L_copyTo_13 h
def q_L_places (K : Int → zS → Prop) (σ : zS) : Prop :=
  zR ((σ 4 0) * (σ 4 1)) ∧ (K ((σ 4 0) * (σ 4 1)) σ)
abbrev rm_L_places : Room := { frames := 0, cells := 0, slots := 0, locals := 0 }
set_option maxRecDepth 20000 in
set_option maxHeartbeats 4000000 in
theorem s_L_places {Ω : zO} {ad : Nat → Nat} {K : Int → zS → Prop} {σ : zS}  (h : q_L_places K σ) : zMi Ω y_L_places (.code y_L_places c_L_places 1 (some .int)) rm_L_places zLy ad [.ref (ad 3)] σ K := by
  refine z_ofi (lv := [(0, .ref (ad 3))]) (by decide) rfl (Nat.le_of_ble_eq_true rfl) ?_
  intro Γ Q cx rt
  unfold q_L_places at h
  refine v_aload_n cx 0 d_L_places_0 rfl rfl ?_
  refine gf_L_11 cx d_L_places_1 ?_
  refine v_iconst cx d_L_places_4 ?_
  refine v_iald cx zl_4 (by decide) (by decide) (by decide) d_L_places_5 (fun hl1 => ?_)
  refine v_aload_n cx 0 d_L_places_6 rfl rfl ?_
  refine gf_L_11 cx d_L_places_7 ?_
  refine v_iconst cx d_L_places_10 ?_
  refine v_iald cx zl_4 (by decide) (by decide) (by decide) d_L_places_11 (fun hl2 => ?_)
  refine v_imul cx d_L_places_12 ?_
  obtain ⟨hr3, h⟩ := h
  exact rt _ _ _ _ _ _ (Nat.le_of_ble_eq_true rfl) (Nat.le_of_ble_eq_true rfl) d_L_places_13 hr3 h
def q_L_value (which : Int) (K : Int → zS → Prop) (σ : zS) : Prop :=
  (0 ≤ 2 + which ∧ 2 + which < 499) ∧ (K (σ 4 (2 + which)) σ)
abbrev rm_L_value : Room := { frames := 0, cells := 0, slots := 0, locals := 0 }
set_option maxRecDepth 20000 in
set_option maxHeartbeats 4000000 in
theorem s_L_value {Ω : zO} {ad : Nat → Nat} {which : Int} {K : Int → zS → Prop} {σ : zS} (hwhich : zR which) (h : q_L_value which K σ) : zMi Ω y_L_value (.code y_L_value c_L_value 2 (some .int)) rm_L_value zLy ad [.ref (ad 3), .int (zI which)] σ K := by
  refine z_ofi (lv := [(0, .ref (ad 3)), (1, .int (zI which))]) (by decide) rfl (Nat.le_of_ble_eq_true rfl) ?_
  intro Γ Q cx rt
  unfold q_L_value at h
  refine v_aload_n cx 0 d_L_value_0 rfl rfl ?_
  refine gf_L_11 cx d_L_value_1 ?_
  refine v_iconst cx d_L_value_4 ?_
  refine v_iload_n cx 1 d_L_value_5 rfl rfl ?_
  refine v_iadd cx d_L_value_6 ?_
  obtain ⟨hb1, h⟩ := h
  refine v_iald cx zl_4 (by decide) hb1.1 hb1.2 d_L_value_7 (fun hl2 => ?_)
  exact rt _ _ _ _ _ _ (Nat.le_of_ble_eq_true rfl) (Nat.le_of_ble_eq_true rfl) d_L_value_8 hl2 h
def q_L_setValue (which : Int) (n_ : Int) (K : zS → Prop) (σ : zS) : Prop :=
  (0 ≤ 2 + which ∧ 2 + which < 499) ∧ (∀ σ2 : zS, σ2 = zU σ 4 (2 + which) n_ → K σ2)
abbrev rm_L_setValue : Room := { frames := 0, cells := 0, slots := 0, locals := 0 }
set_option maxRecDepth 20000 in
set_option maxHeartbeats 4000000 in
theorem s_L_setValue {Ω : zO} {ad : Nat → Nat} {which : Int} {n_ : Int} {K : zS → Prop} {σ : zS} (hwhich : zR which) (hn_ : zR n_) (h : q_L_setValue which n_ K σ) : zMv Ω y_L_setValue (.code y_L_setValue c_L_setValue 3 none) rm_L_setValue zLy ad [.ref (ad 3), .int (zI which), .int (zI n_)] σ K := by
  refine z_ofv (lv := [(0, .ref (ad 3)), (1, .int (zI which)), (2, .int (zI n_))]) (by decide) rfl (Nat.le_of_ble_eq_true rfl) ?_
  intro Γ Q cx rt
  unfold q_L_setValue at h
  refine v_aload_n cx 0 d_L_setValue_0 rfl rfl ?_
  refine gf_L_11 cx d_L_setValue_1 ?_
  refine v_iconst cx d_L_setValue_4 ?_
  refine v_iload_n cx 1 d_L_setValue_5 rfl rfl ?_
  refine v_iadd cx d_L_setValue_6 ?_
  refine v_iload_n cx 2 d_L_setValue_7 rfl rfl ?_
  obtain ⟨hb1, h⟩ := h
  refine v_iast cx zl_4 (by decide) hb1.1 hb1.2 hn_ d_L_setValue_8 ?_
  refine v_ns (fun σ2 eσ2 => ?_)
  replace h := h σ2 eσ2
  exact rt _ _ _ _ _ (Nat.le_of_ble_eq_true rfl) (Nat.le_of_ble_eq_true rfl) d_L_setValue_9 h
def q_L_height (place : Int) (K : Int → zS → Prop) (σ : zS) : Prop :=
  (0 ≤ 13 + place ∧ 13 + place < 499) ∧ (K (σ 4 (13 + place)) σ)
abbrev rm_L_height : Room := { frames := 0, cells := 0, slots := 0, locals := 0 }
set_option maxRecDepth 20000 in
set_option maxHeartbeats 4000000 in
theorem s_L_height {Ω : zO} {ad : Nat → Nat} {place : Int} {K : Int → zS → Prop} {σ : zS} (hplace : zR place) (h : q_L_height place K σ) : zMi Ω y_L_height (.code y_L_height c_L_height 2 (some .int)) rm_L_height zLy ad [.ref (ad 3), .int (zI place)] σ K := by
  refine z_ofi (lv := [(0, .ref (ad 3)), (1, .int (zI place))]) (by decide) rfl (Nat.le_of_ble_eq_true rfl) ?_
  intro Γ Q cx rt
  unfold q_L_height at h
  refine v_aload_n cx 0 d_L_height_0 rfl rfl ?_
  refine gf_L_11 cx d_L_height_1 ?_
  refine v_bipush cx (by decide) d_L_height_4 ?_
  refine v_iload_n cx 1 d_L_height_6 rfl rfl ?_
  refine v_iadd cx d_L_height_7 ?_
  obtain ⟨hb1, h⟩ := h
  refine v_iald cx zl_4 (by decide) hb1.1 hb1.2 d_L_height_8 (fun hl2 => ?_)
  exact rt _ _ _ _ _ _ (Nat.le_of_ble_eq_true rfl) (Nat.le_of_ble_eq_true rfl) d_L_height_9 hl2 h
def q_L_setHeight (place : Int) (height : Int) (K : zS → Prop) (σ : zS) : Prop :=
  (0 ≤ 13 + place ∧ 13 + place < 499) ∧ (∀ σ2 : zS, σ2 = zU σ 4 (13 + place) height → K σ2)
abbrev rm_L_setHeight : Room := { frames := 0, cells := 0, slots := 0, locals := 0 }
set_option maxRecDepth 20000 in
set_option maxHeartbeats 4000000 in
theorem s_L_setHeight {Ω : zO} {ad : Nat → Nat} {place : Int} {height : Int} {K : zS → Prop} {σ : zS} (hplace : zR place) (hheight : zR height) (h : q_L_setHeight place height K σ) : zMv Ω y_L_setHeight (.code y_L_setHeight c_L_setHeight 3 none) rm_L_setHeight zLy ad [.ref (ad 3), .int (zI place), .int (zI height)] σ K := by
  refine z_ofv (lv := [(0, .ref (ad 3)), (1, .int (zI place)), (2, .int (zI height))]) (by decide) rfl (Nat.le_of_ble_eq_true rfl) ?_
  intro Γ Q cx rt
  unfold q_L_setHeight at h
  refine v_aload_n cx 0 d_L_setHeight_0 rfl rfl ?_
  refine gf_L_11 cx d_L_setHeight_1 ?_
  refine v_bipush cx (by decide) d_L_setHeight_4 ?_
  refine v_iload_n cx 1 d_L_setHeight_6 rfl rfl ?_
  refine v_iadd cx d_L_setHeight_7 ?_
  refine v_iload_n cx 2 d_L_setHeight_8 rfl rfl ?_
  obtain ⟨hb1, h⟩ := h
  refine v_iast cx zl_4 (by decide) hb1.1 hb1.2 hheight d_L_setHeight_9 ?_
  refine v_ns (fun σ2 eσ2 => ?_)
  replace h := h σ2 eσ2
  exact rt _ _ _ _ _ (Nat.le_of_ble_eq_true rfl) (Nat.le_of_ble_eq_true rfl) d_L_setHeight_10 h
def q_L_isWet (place : Int) (K : Int → zS → Prop) (σ : zS) : Prop :=
  (place = (-1) →
    K 0 σ) ∧ (place ≠ (-1) →
    (0 ≤ 94 + place ∧ 94 + place < 499) ∧ (((σ 4 (94 + place)) = 0 →
        K 0 σ) ∧ ((σ 4 (94 + place)) ≠ 0 →
        K 1 σ)))
abbrev rm_L_isWet : Room := { frames := 0, cells := 0, slots := 0, locals := 0 }
set_option maxRecDepth 20000 in
set_option maxHeartbeats 4000000 in
theorem s_L_isWet {Ω : zO} {ad : Nat → Nat} {place : Int} {K : Int → zS → Prop} {σ : zS} (hplace : zR place) (h : q_L_isWet place K σ) : zMz Ω y_L_isWet (.code y_L_isWet c_L_isWet 2 (some .boolean)) rm_L_isWet zLy ad [.ref (ad 3), .int (zI place)] σ K := by
  refine z_ofz (lv := [(0, .ref (ad 3)), (1, .int (zI place))]) (by decide) rfl (Nat.le_of_ble_eq_true rfl) ?_
  intro Γ Q cx rt
  unfold q_L_isWet at h
  refine v_iload_n cx 1 d_L_isWet_0 rfl rfl ?_
  refine v_iconst cx d_L_isWet_1 ?_
  refine v_icmp_eq cx 21 d_L_isWet_2 (by decide) hplace ⟨by decide, by decide⟩ (fun c1 => ?_) (fun c1 => ?_)
  · replace h := h.1 c1
    refine v_iconst cx d_L_isWet_21 ?_
    exact rt _ _ _ _ _ _ (Nat.le_of_ble_eq_true rfl) (Nat.le_of_ble_eq_true rfl) d_L_isWet_22 (Or.inl rfl) h
  · replace h := h.2 c1
    refine v_aload_n cx 0 d_L_isWet_5 rfl rfl ?_
    refine gf_L_11 cx d_L_isWet_6 ?_
    refine v_bipush cx (by decide) d_L_isWet_9 ?_
    refine v_iload_n cx 1 d_L_isWet_11 rfl rfl ?_
    refine v_iadd cx d_L_isWet_12 ?_
    obtain ⟨hb2, h⟩ := h
    refine v_iald cx zl_4 (by decide) hb2.1 hb2.2 d_L_isWet_13 (fun hl3 => ?_)
    refine v_if_eq cx 21 d_L_isWet_14 (by decide) hl3 (fun c4 => ?_) (fun c4 => ?_)
    · replace h := h.1 c4
      refine v_iconst cx d_L_isWet_21 ?_
      exact rt _ _ _ _ _ _ (Nat.le_of_ble_eq_true rfl) (Nat.le_of_ble_eq_true rfl) d_L_isWet_22 (Or.inl rfl) h
    · replace h := h.2 c4
      refine v_iconst cx d_L_isWet_17 ?_
      refine v_goto cx 22 d_L_isWet_18 (by decide) ?_
      exact rt _ _ _ _ _ _ (Nat.le_of_ble_eq_true rfl) (Nat.le_of_ble_eq_true rfl) d_L_isWet_22 (Or.inr rfl) h
def q_L_setWet (place : Int) (is_ : Int) (K : zS → Prop) (σ : zS) : Prop :=
  (is_ = 0 →
    (0 ≤ 94 + place ∧ 94 + place < 499) ∧ (∀ σ3 : zS, σ3 = zU σ 4 (94 + place) 0 → K σ3)) ∧ (is_ ≠ 0 →
    (0 ≤ 94 + place ∧ 94 + place < 499) ∧ (∀ σ5 : zS, σ5 = zU σ 4 (94 + place) 1 → K σ5))
abbrev rm_L_setWet : Room := { frames := 0, cells := 0, slots := 0, locals := 0 }
set_option maxRecDepth 20000 in
set_option maxHeartbeats 4000000 in
theorem s_L_setWet {Ω : zO} {ad : Nat → Nat} {place : Int} {is_ : Int} {K : zS → Prop} {σ : zS} (hplace : zR place) (his_ : is_ = 0 ∨ is_ = 1) (h : q_L_setWet place is_ K σ) : zMv Ω y_L_setWet (.code y_L_setWet c_L_setWet 3 none) rm_L_setWet zLy ad [.ref (ad 3), .int (zI place), .int (zI is_)] σ K := by
  refine z_ofv (lv := [(0, .ref (ad 3)), (1, .int (zI place)), (2, .int (zI is_))]) (by decide) rfl (Nat.le_of_ble_eq_true rfl) ?_
  intro Γ Q cx rt
  unfold q_L_setWet at h
  refine v_aload_n cx 0 d_L_setWet_0 rfl rfl ?_
  refine gf_L_11 cx d_L_setWet_1 ?_
  refine v_bipush cx (by decide) d_L_setWet_4 ?_
  refine v_iload_n cx 1 d_L_setWet_6 rfl rfl ?_
  refine v_iadd cx d_L_setWet_7 ?_
  refine v_iload_n cx 2 d_L_setWet_8 rfl rfl ?_
  refine v_if_eq cx 16 d_L_setWet_9 (by decide) (zR_b his_) (fun c1 => ?_) (fun c1 => ?_)
  · replace h := h.1 c1
    refine v_iconst cx d_L_setWet_16 ?_
    obtain ⟨hb2, h⟩ := h
    refine v_iast cx zl_4 (by decide) hb2.1 hb2.2 ⟨by decide, by decide⟩ d_L_setWet_17 ?_
    refine v_ns (fun σ3 eσ3 => ?_)
    replace h := h σ3 eσ3
    exact rt _ _ _ _ _ (Nat.le_of_ble_eq_true rfl) (Nat.le_of_ble_eq_true rfl) d_L_setWet_18 h
  · replace h := h.2 c1
    refine v_iconst cx d_L_setWet_12 ?_
    refine v_goto cx 17 d_L_setWet_13 (by decide) ?_
    obtain ⟨hb4, h⟩ := h
    refine v_iast cx zl_4 (by decide) hb4.1 hb4.2 ⟨by decide, by decide⟩ d_L_setWet_17 ?_
    refine v_ns (fun σ5 eσ5 => ?_)
    replace h := h σ5 eσ5
    exact rt _ _ _ _ _ (Nat.le_of_ble_eq_true rfl) (Nat.le_of_ble_eq_true rfl) d_L_setWet_18 h
def q_L_wetPlaces (K : Int → zS → Prop) (σ : zS) : Prop :=
  ∃ (I4 : Int → Int → zS → Prop) (μ4 : Int → Int → zS → Nat), (I4 0 0 σ) ∧ ∀ (y1 y2 : Int) (σ3 : zS), I4 y1 y2 σ3 → zR y1 → zR y2 → 
  q_L_places (fun r5 σ4 =>
    (r5 ≤ y2 →
      K y1 σ4) ∧ (y2 < r5 →
      (0 ≤ 94 + y2 ∧ 94 + y2 < 499) ∧ (∀ x9 : Int, x9 = y1 + (σ4 4 (94 + y2)) → I4 x9 (y2 + 1) σ4 ∧ zR x9 ∧ zR (y2 + 1) ∧ μ4 x9 (y2 + 1) σ4 < μ4 y1 y2 σ3))) σ3
abbrev rm_L_wetPlaces : Room := { frames := 1, cells := 0, slots := 0, locals := 20 }
set_option maxRecDepth 20000 in
set_option maxHeartbeats 4000000 in
theorem s_L_wetPlaces {Ω : zO} {ad : Nat → Nat} {K : Int → zS → Prop} {σ : zS}  (h : q_L_wetPlaces K σ) : zMi Ω y_L_wetPlaces (.code y_L_wetPlaces c_L_wetPlaces 3 (some .int)) rm_L_wetPlaces zLy ad [.ref (ad 3)] σ K := by
  refine z_ofi (lv := [(0, .ref (ad 3))]) (by decide) rfl (Nat.le_of_ble_eq_true rfl) ?_
  intro Γ Q cx rt
  unfold q_L_wetPlaces at h
  refine v_iconst cx d_L_wetPlaces_0 ?_
  refine v_istore_n (lv' := [(0, .ref (ad 3)), (1, .int (zI 0))]) cx d_L_wetPlaces_1 rfl (by decide) rfl rfl ?_
  refine v_iconst cx d_L_wetPlaces_2 ?_
  refine v_istore_n (lv' := [(0, .ref (ad 3)), (1, .int (zI 0)), (2, .int (zI 0))]) cx d_L_wetPlaces_3 rfl (by decide) rfl rfl ?_
  obtain ⟨I4, μ4, h0, h⟩ := h
  have L4 : ∀ (N4 : Nat) (y1 y2 : Int) (σ3 : zS), μ4 y1 y2 σ3 < N4 → I4 y1 y2 σ3 → zR y1 → zR y2 → zV Ω Γ rm_L_wetPlaces 3 Q 0 0 zLy ad σ3 4 [(0, .ref (ad 3)), (1, .int (zI y1)), (2, .int (zI y2))] [] := by
    intro N4
    induction N4 with
    | zero => intro y1 y2 σ3 hm; exact absurd hm (Nat.not_lt_zero _)
    | succ N4 ih4 =>
      intro y1 y2 σ3 hmm4 hI hy1 hy2
      replace h := h y1 y2 σ3 hI hy1 hy2
      refine v_iload_n cx 2 d_L_wetPlaces_4 rfl rfl ?_
      refine v_aload_n cx 0 d_L_wetPlaces_5 rfl rfl ?_
      refine v_callVi0 (st := [.int (zI y2)]) cx (s_L_places  h) yk_L_places lk_L_53 zl_3 rfl rfl rfl (Nat.le_of_ble_eq_true rfl) ⟨Nat.le_of_ble_eq_true rfl, Nat.le_of_ble_eq_true rfl⟩ ⟨rfl, rfl⟩ ⟨(Nat.le_of_ble_eq_true rfl), (Nat.le_of_ble_eq_true rfl)⟩ d_L_wetPlaces_6 (fun r5 σ4 hr5 h => ?_)
      refine v_icmp_ge cx 30 d_L_wetPlaces_9 (by decide) hy2 hr5 (fun c6 => ?_) (fun c6 => ?_)
      · replace h := h.1 c6
        refine v_iload_n cx 1 d_L_wetPlaces_30 rfl rfl ?_
        exact rt _ _ _ _ _ _ (Nat.le_of_ble_eq_true rfl) (Nat.le_of_ble_eq_true rfl) d_L_wetPlaces_31 hy1 h
      · replace h := h.2 c6
        refine v_iload_n cx 1 d_L_wetPlaces_12 rfl rfl ?_
        refine v_aload_n cx 0 d_L_wetPlaces_13 rfl rfl ?_
        refine gf_L_11 cx d_L_wetPlaces_14 ?_
        refine v_bipush cx (by decide) d_L_wetPlaces_17 ?_
        refine v_iload_n cx 2 d_L_wetPlaces_19 rfl rfl ?_
        refine v_iadd cx d_L_wetPlaces_20 ?_
        obtain ⟨hb7, h⟩ := h
        refine v_iald cx zl_4 (by decide) hb7.1 hb7.2 d_L_wetPlaces_21 (fun hl8 => ?_)
        refine v_iadd cx d_L_wetPlaces_22 ?_
        refine v_nm (fun x9 ex9 => ?_)
        replace h := h x9 ex9
        refine v_istore_n (lv' := [(0, .ref (ad 3)), (1, .int (zI x9)), (2, .int (zI y2))]) cx d_L_wetPlaces_23 rfl (by decide) rfl rfl ?_
        refine v_iinc (lv' := [(0, .ref (ad 3)), (1, .int (zI x9)), (2, .int (zI (y2 + 1)))]) cx 2 d_L_wetPlaces_24 rfl (by decide) rfl rfl ?_
        refine v_goto cx 4 d_L_wetPlaces_27 (by decide) ?_
        obtain ⟨hI2, hz11, hz12, hm2⟩ := h
        exact ih4 _ _ _ (Nat.lt_of_lt_of_le hm2 (Nat.le_of_lt_succ hmm4)) hI2 hz11 hz12
  exact L4 _ _ _ _ (Nat.lt_succ_self _) h0 ⟨by decide, by decide⟩ ⟨by decide, by decide⟩
def q_L_roadSize (which : Int) (K : Int → zS → Prop) (σ : zS) : Prop :=
  (0 ≤ 175 + (which * 81) ∧ 175 + (which * 81) < 499) ∧ (K (σ 4 (175 + (which * 81))) σ)
abbrev rm_L_roadSize : Room := { frames := 0, cells := 0, slots := 0, locals := 0 }
set_option maxRecDepth 20000 in
set_option maxHeartbeats 4000000 in
theorem s_L_roadSize {Ω : zO} {ad : Nat → Nat} {which : Int} {K : Int → zS → Prop} {σ : zS} (hwhich : zR which) (h : q_L_roadSize which K σ) : zMi Ω y_L_roadSize (.code y_L_roadSize c_L_roadSize 2 (some .int)) rm_L_roadSize zLy ad [.ref (ad 3), .int (zI which)] σ K := by
  refine z_ofi (lv := [(0, .ref (ad 3)), (1, .int (zI which))]) (by decide) rfl (Nat.le_of_ble_eq_true rfl) ?_
  intro Γ Q cx rt
  unfold q_L_roadSize at h
  refine v_aload_n cx 0 d_L_roadSize_0 rfl rfl ?_
  refine gf_L_11 cx d_L_roadSize_1 ?_
  refine v_sipush cx (by decide) d_L_roadSize_4 ?_
  refine v_iload_n cx 1 d_L_roadSize_7 rfl rfl ?_
  refine v_bipush cx (by decide) d_L_roadSize_8 ?_
  refine v_imul cx d_L_roadSize_10 ?_
  refine v_iadd cx d_L_roadSize_11 ?_
  obtain ⟨hb1, h⟩ := h
  refine v_iald cx zl_4 (by decide) hb1.1 hb1.2 d_L_roadSize_12 (fun hl2 => ?_)
  exact rt _ _ _ _ _ _ (Nat.le_of_ble_eq_true rfl) (Nat.le_of_ble_eq_true rfl) d_L_roadSize_13 hl2 h
def q_L_isBuilt (which : Int) (K : Int → zS → Prop) (σ : zS) : Prop :=
  q_L_roadSize which (fun r2 σ1 =>
    (r2 = 0 →
      K 0 σ1) ∧ (r2 ≠ 0 →
      K 1 σ1)) σ
abbrev rm_L_isBuilt : Room := { frames := 1, cells := 0, slots := 0, locals := 21 }
set_option maxRecDepth 20000 in
set_option maxHeartbeats 4000000 in
theorem s_L_isBuilt {Ω : zO} {ad : Nat → Nat} {which : Int} {K : Int → zS → Prop} {σ : zS} (hwhich : zR which) (h : q_L_isBuilt which K σ) : zMz Ω y_L_isBuilt (.code y_L_isBuilt c_L_isBuilt 2 (some .boolean)) rm_L_isBuilt zLy ad [.ref (ad 3), .int (zI which)] σ K := by
  refine z_ofz (lv := [(0, .ref (ad 3)), (1, .int (zI which))]) (by decide) rfl (Nat.le_of_ble_eq_true rfl) ?_
  intro Γ Q cx rt
  unfold q_L_isBuilt at h
  refine v_aload_n cx 0 d_L_isBuilt_0 rfl rfl ?_
  refine v_iload_n cx 1 d_L_isBuilt_1 rfl rfl ?_
  refine v_callVi0 (st := []) cx (s_L_roadSize hwhich h) yk_L_roadSize lk_L_56 zl_3 rfl rfl rfl (Nat.le_of_ble_eq_true rfl) ⟨Nat.le_of_ble_eq_true rfl, Nat.le_of_ble_eq_true rfl⟩ ⟨rfl, rfl⟩ ⟨(Nat.le_of_ble_eq_true rfl), (Nat.le_of_ble_eq_true rfl)⟩ d_L_isBuilt_2 (fun r2 σ1 hr2 h => ?_)
  refine v_if_eq cx 12 d_L_isBuilt_5 (by decide) hr2 (fun c3 => ?_) (fun c3 => ?_)
  · replace h := h.1 c3
    refine v_iconst cx d_L_isBuilt_12 ?_
    exact rt _ _ _ _ _ _ (Nat.le_of_ble_eq_true rfl) (Nat.le_of_ble_eq_true rfl) d_L_isBuilt_13 (Or.inl rfl) h
  · replace h := h.2 c3
    refine v_iconst cx d_L_isBuilt_8 ?_
    refine v_goto cx 13 d_L_isBuilt_9 (by decide) ?_
    exact rt _ _ _ _ _ _ (Nat.le_of_ble_eq_true rfl) (Nat.le_of_ble_eq_true rfl) d_L_isBuilt_13 (Or.inr rfl) h
def q_L_roadPlace (which : Int) (k_ : Int) (K : Int → zS → Prop) (σ : zS) : Prop :=
  (0 ≤ ((175 + (which * 81)) + 1) + k_ ∧ ((175 + (which * 81)) + 1) + k_ < 499) ∧ (K (σ 4 (((175 + (which * 81)) + 1) + k_)) σ)
abbrev rm_L_roadPlace : Room := { frames := 0, cells := 0, slots := 0, locals := 0 }
set_option maxRecDepth 20000 in
set_option maxHeartbeats 4000000 in
theorem s_L_roadPlace {Ω : zO} {ad : Nat → Nat} {which : Int} {k_ : Int} {K : Int → zS → Prop} {σ : zS} (hwhich : zR which) (hk_ : zR k_) (h : q_L_roadPlace which k_ K σ) : zMi Ω y_L_roadPlace (.code y_L_roadPlace c_L_roadPlace 3 (some .int)) rm_L_roadPlace zLy ad [.ref (ad 3), .int (zI which), .int (zI k_)] σ K := by
  refine z_ofi (lv := [(0, .ref (ad 3)), (1, .int (zI which)), (2, .int (zI k_))]) (by decide) rfl (Nat.le_of_ble_eq_true rfl) ?_
  intro Γ Q cx rt
  unfold q_L_roadPlace at h
  refine v_aload_n cx 0 d_L_roadPlace_0 rfl rfl ?_
  refine gf_L_11 cx d_L_roadPlace_1 ?_
  refine v_sipush cx (by decide) d_L_roadPlace_4 ?_
  refine v_iload_n cx 1 d_L_roadPlace_7 rfl rfl ?_
  refine v_bipush cx (by decide) d_L_roadPlace_8 ?_
  refine v_imul cx d_L_roadPlace_10 ?_
  refine v_iadd cx d_L_roadPlace_11 ?_
  refine v_iconst cx d_L_roadPlace_12 ?_
  refine v_iadd cx d_L_roadPlace_13 ?_
  refine v_iload_n cx 2 d_L_roadPlace_14 rfl rfl ?_
  refine v_iadd cx d_L_roadPlace_15 ?_
  obtain ⟨hb1, h⟩ := h
  refine v_iald cx zl_4 (by decide) hb1.1 hb1.2 d_L_roadPlace_16 (fun hl2 => ?_)
  exact rt _ _ _ _ _ _ (Nat.le_of_ble_eq_true rfl) (Nat.le_of_ble_eq_true rfl) d_L_roadPlace_17 hl2 h
def q_L_roadOffset (which : Int) (k_ : Int) (K : Int → zS → Prop) (σ : zS) : Prop :=
  (0 ≤ (((175 + (which * 81)) + 1) + 40) + k_ ∧ (((175 + (which * 81)) + 1) + 40) + k_ < 499) ∧ (K (σ 4 ((((175 + (which * 81)) + 1) + 40) + k_)) σ)
abbrev rm_L_roadOffset : Room := { frames := 0, cells := 0, slots := 0, locals := 0 }
set_option maxRecDepth 20000 in
set_option maxHeartbeats 4000000 in
theorem s_L_roadOffset {Ω : zO} {ad : Nat → Nat} {which : Int} {k_ : Int} {K : Int → zS → Prop} {σ : zS} (hwhich : zR which) (hk_ : zR k_) (h : q_L_roadOffset which k_ K σ) : zMi Ω y_L_roadOffset (.code y_L_roadOffset c_L_roadOffset 3 (some .int)) rm_L_roadOffset zLy ad [.ref (ad 3), .int (zI which), .int (zI k_)] σ K := by
  refine z_ofi (lv := [(0, .ref (ad 3)), (1, .int (zI which)), (2, .int (zI k_))]) (by decide) rfl (Nat.le_of_ble_eq_true rfl) ?_
  intro Γ Q cx rt
  unfold q_L_roadOffset at h
  refine v_aload_n cx 0 d_L_roadOffset_0 rfl rfl ?_
  refine gf_L_11 cx d_L_roadOffset_1 ?_
  refine v_sipush cx (by decide) d_L_roadOffset_4 ?_
  refine v_iload_n cx 1 d_L_roadOffset_7 rfl rfl ?_
  refine v_bipush cx (by decide) d_L_roadOffset_8 ?_
  refine v_imul cx d_L_roadOffset_10 ?_
  refine v_iadd cx d_L_roadOffset_11 ?_
  refine v_iconst cx d_L_roadOffset_12 ?_
  refine v_iadd cx d_L_roadOffset_13 ?_
  refine v_bipush cx (by decide) d_L_roadOffset_14 ?_
  refine v_iadd cx d_L_roadOffset_16 ?_
  refine v_iload_n cx 2 d_L_roadOffset_17 rfl rfl ?_
  refine v_iadd cx d_L_roadOffset_18 ?_
  obtain ⟨hb1, h⟩ := h
  refine v_iald cx zl_4 (by decide) hb1.1 hb1.2 d_L_roadOffset_19 (fun hl2 => ?_)
  exact rt _ _ _ _ _ _ (Nat.le_of_ble_eq_true rfl) (Nat.le_of_ble_eq_true rfl) d_L_roadOffset_20 hl2 h
def q_L_setRoadOffset (which : Int) (k_ : Int) (offset : Int) (K : zS → Prop) (σ : zS) : Prop :=
  (0 ≤ (((175 + (which * 81)) + 1) + 40) + k_ ∧ (((175 + (which * 81)) + 1) + 40) + k_ < 499) ∧ (∀ σ2 : zS, σ2 = zU σ 4 ((((175 + (which * 81)) + 1) + 40) + k_) offset → K σ2)
abbrev rm_L_setRoadOffset : Room := { frames := 0, cells := 0, slots := 0, locals := 0 }
set_option maxRecDepth 20000 in
set_option maxHeartbeats 4000000 in
theorem s_L_setRoadOffset {Ω : zO} {ad : Nat → Nat} {which : Int} {k_ : Int} {offset : Int} {K : zS → Prop} {σ : zS} (hwhich : zR which) (hk_ : zR k_) (hoffset : zR offset) (h : q_L_setRoadOffset which k_ offset K σ) : zMv Ω y_L_setRoadOffset (.code y_L_setRoadOffset c_L_setRoadOffset 4 none) rm_L_setRoadOffset zLy ad [.ref (ad 3), .int (zI which), .int (zI k_), .int (zI offset)] σ K := by
  refine z_ofv (lv := [(0, .ref (ad 3)), (1, .int (zI which)), (2, .int (zI k_)), (3, .int (zI offset))]) (by decide) rfl (Nat.le_of_ble_eq_true rfl) ?_
  intro Γ Q cx rt
  unfold q_L_setRoadOffset at h
  refine v_aload_n cx 0 d_L_setRoadOffset_0 rfl rfl ?_
  refine gf_L_11 cx d_L_setRoadOffset_1 ?_
  refine v_sipush cx (by decide) d_L_setRoadOffset_4 ?_
  refine v_iload_n cx 1 d_L_setRoadOffset_7 rfl rfl ?_
  refine v_bipush cx (by decide) d_L_setRoadOffset_8 ?_
  refine v_imul cx d_L_setRoadOffset_10 ?_
  refine v_iadd cx d_L_setRoadOffset_11 ?_
  refine v_iconst cx d_L_setRoadOffset_12 ?_
  refine v_iadd cx d_L_setRoadOffset_13 ?_
  refine v_bipush cx (by decide) d_L_setRoadOffset_14 ?_
  refine v_iadd cx d_L_setRoadOffset_16 ?_
  refine v_iload_n cx 2 d_L_setRoadOffset_17 rfl rfl ?_
  refine v_iadd cx d_L_setRoadOffset_18 ?_
  refine v_iload_n cx 3 d_L_setRoadOffset_19 rfl rfl ?_
  obtain ⟨hb1, h⟩ := h
  refine v_iast cx zl_4 (by decide) hb1.1 hb1.2 hoffset d_L_setRoadOffset_20 ?_
  refine v_ns (fun σ2 eσ2 => ?_)
  replace h := h σ2 eσ2
  exact rt _ _ _ _ _ (Nat.le_of_ble_eq_true rfl) (Nat.le_of_ble_eq_true rfl) d_L_setRoadOffset_21 h
