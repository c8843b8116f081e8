def q_X_told (K : zS → Prop) (σ : zS) : Prop :=
  K σ
abbrev rm_X_told : Room := { frames := 0, cells := 0, slots := 0, locals := 0 }
set_option maxRecDepth 20000 in
set_option maxHeartbeats 4000000 in
theorem s_X_told {Ω : zO} {ad : Nat → Nat} {K : zS → Prop} {σ : zS}  (h : q_X_told K σ) : zMr Ω y_X_told (.code y_X_told c_X_told 1 (some (.array .int))) rm_X_told zLy ad [.ref (ad 6)] σ (fun ra u => ra = ad 7 ∧ K u) := by
  refine z_ofr (lv := [(0, .ref (ad 6))]) (Or.inr ⟨_, rfl⟩) (by decide) rfl (Nat.le_of_ble_eq_true rfl) ?_
  intro Γ Q cx rt
  unfold q_X_told at h
  refine v_aload_n cx 0 d_X_told_0 rfl rfl ?_
  refine gf_X_17 cx d_X_told_1 ?_
  exact rt _ _ _ _ _ _ (Nat.le_of_ble_eq_true rfl) (Nat.le_of_ble_eq_true rfl) d_X_told_4 ⟨rfl, h⟩
def q_X_toNextThing (K : zS → Prop) (σ : zS) : Prop :=
  ∀ σ2 : zS, σ2 = zU σ 6 5 (σ 6 4) → ∃ (I8 : zS → Prop) (μ8 : zS → Nat), (I8 σ2) ∧ ∀ (σ3 : zS), I8 σ3 → 
  ((σ3 6 3) ≤ (σ3 6 5) →
    ∀ σ8 : zS, σ8 = zU σ3 6 4 (σ3 6 5) → K σ8) ∧ ((σ3 6 5) < (σ3 6 3) →
    q_T_byteAt (σ3 6 5) (fun r11 σ10 =>
      (r11 ≠ 32 →
        ∀ σ14 : zS, σ14 = zU σ10 6 4 (σ10 6 5) → K σ14) ∧ (r11 = 32 →
        zR ((σ10 6 5) + 1) ∧ (∀ σ17 : zS, σ17 = zU σ10 6 5 ((σ10 6 5) + 1) → I8 σ17 ∧ μ8 σ17 < μ8 σ3))) σ3)
abbrev rm_X_toNextThing : Room := { frames := 1, cells := 0, slots := 0, locals := 21 }
set_option maxRecDepth 20000 in
set_option maxHeartbeats 4000000 in
theorem s_X_toNextThing {Ω : zO} {ad : Nat → Nat} {K : zS → Prop} {σ : zS}  (h : q_X_toNextThing K σ) : zMv Ω y_X_toNextThing (.code y_X_toNextThing c_X_toNextThing 1 none) rm_X_toNextThing zLy ad [.ref (ad 6)] σ K := by
  refine z_ofv (lv := [(0, .ref (ad 6))]) (by decide) rfl (Nat.le_of_ble_eq_true rfl) ?_
  intro Γ Q cx rt
  unfold q_X_toNextThing at h
  refine v_aload_n cx 0 d_X_toNextThing_0 rfl rfl ?_
  refine v_aload_n cx 0 d_X_toNextThing_1 rfl rfl ?_
  refine gf_X_34 cx d_X_toNextThing_2 (fun hl1 => ?_)
  refine pf_X_62 cx hl1 d_X_toNextThing_5 ?_
  refine v_ns (fun σ2 eσ2 => ?_)
  replace h := h σ2 eσ2
  obtain ⟨I8, μ8, h0, h⟩ := h
  have L8 : ∀ (N8 : Nat) (σ3 : zS), μ8 σ3 < N8 → I8 σ3 → zV Ω Γ rm_X_toNextThing 1 Q 0 0 zLy ad σ3 8 [(0, .ref (ad 6))] [] := by
    intro N8
    induction N8 with
    | zero => intro σ3 hm; exact absurd hm (Nat.not_lt_zero _)
    | succ N8 ih8 =>
      intro σ3 hmm8 hI 
      replace h := h σ3 hI 
      refine v_aload_n cx 0 d_X_toNextThing_8 rfl rfl ?_
      refine gf_X_62 cx d_X_toNextThing_9 (fun hl4 => ?_)
      refine v_aload_n cx 0 d_X_toNextThing_12 rfl rfl ?_
      refine gf_X_31 cx d_X_toNextThing_13 (fun hl5 => ?_)
      refine v_icmp_ge cx 48 d_X_toNextThing_16 (by decide) hl4 hl5 (fun c6 => ?_) (fun c6 => ?_)
      · replace h := h.1 c6
        refine v_aload_n cx 0 d_X_toNextThing_48 rfl rfl ?_
        refine v_aload_n cx 0 d_X_toNextThing_49 rfl rfl ?_
        refine gf_X_62 cx d_X_toNextThing_50 (fun hl7 => ?_)
        refine pf_X_34 cx hl7 d_X_toNextThing_53 ?_
        refine v_ns (fun σ8 eσ8 => ?_)
        replace h := h σ8 eσ8
        exact rt _ _ _ _ _ (Nat.le_of_ble_eq_true rfl) (Nat.le_of_ble_eq_true rfl) d_X_toNextThing_56 h
      · replace h := h.2 c6
        refine v_aload_n cx 0 d_X_toNextThing_19 rfl rfl ?_
        refine gf_X_9 cx d_X_toNextThing_20 ?_
        refine v_aload_n cx 0 d_X_toNextThing_23 rfl rfl ?_
        refine gf_X_62 cx d_X_toNextThing_24 (fun hl9 => ?_)
        refine v_callVi0 (st := []) cx (s_T_byteAt hl9 h) yk_T_byteAt lk_X_105 zl_1 rfl rfl rfl (Nat.le_of_ble_eq_true rfl) ⟨Nat.le_of_ble_eq_true rfl, Nat.le_of_ble_eq_true rfl⟩ ⟨rfl, rfl⟩ ⟨(Nat.le_of_ble_eq_true rfl), (Nat.le_of_ble_eq_true rfl)⟩ d_X_toNextThing_27 (fun r11 σ10 hr11 h => ?_)
        refine v_bipush cx (by decide) d_X_toNextThing_30 ?_
        refine v_icmp_ne cx 48 d_X_toNextThing_32 (by decide) hr11 ⟨by decide, by decide⟩ (fun c12 => ?_) (fun c12 => ?_)
        · replace h := h.1 c12
          refine v_aload_n cx 0 d_X_toNextThing_48 rfl rfl ?_
          refine v_aload_n cx 0 d_X_toNextThing_49 rfl rfl ?_
          refine gf_X_62 cx d_X_toNextThing_50 (fun hl13 => ?_)
          refine pf_X_34 cx hl13 d_X_toNextThing_53 ?_
          refine v_ns (fun σ14 eσ14 => ?_)
          replace h := h σ14 eσ14
          exact rt _ _ _ _ _ (Nat.le_of_ble_eq_true rfl) (Nat.le_of_ble_eq_true rfl) d_X_toNextThing_56 h
        · replace h := h.2 c12
          refine v_aload_n cx 0 d_X_toNextThing_35 rfl rfl ?_
          refine v_dup cx d_X_toNextThing_36 rfl ?_
          refine gf_X_62 cx d_X_toNextThing_37 (fun hl15 => ?_)
          refine v_iconst cx d_X_toNextThing_40 ?_
          refine v_iadd cx d_X_toNextThing_41 ?_
          obtain ⟨hr16, h⟩ := h
          refine pf_X_62 cx hr16 d_X_toNextThing_42 ?_
          refine v_ns (fun σ17 eσ17 => ?_)
          replace h := h σ17 eσ17
          refine v_goto cx 8 d_X_toNextThing_45 (by decide) ?_
          obtain ⟨hI2, hm2⟩ := h
          exact ih8 _ (Nat.lt_of_lt_of_le hm2 (Nat.le_of_lt_succ hmm8)) hI2 
  exact L8 _ _ (Nat.lt_succ_self _) h0 
def q_X_number (least : Int) (most : Int) (K : Int → zS → Prop) (σ : zS) : Prop :=
  q_X_toNextThing (fun σ1 =>
    ∀ x3 : Int, x3 = σ1 6 5 → ∃ (I15 : Int → Int → Int → zS → Prop) (μ15 : Int → Int → Int → zS → Nat), (I15 0 0 x3 σ1) ∧ ∀ (y4 y5 y6 : Int) (σ7 : zS), I15 y4 y5 y6 σ7 → zR y4 → zR y5 → zR y6 → 
    ∃ J88 : Int → Int → zS → Prop, (∀ (w9 w10 : Int) (σ11 : zS), J88 w9 w10 σ11 → zR w9 → zR w10 → 
      zR ((σ11 6 5) + w9) ∧ (∀ σ14 : zS, σ14 = zU σ11 6 4 ((σ11 6 5) + w9) → (w9 = 0 →
          K (-1) σ14) ∧ (w9 ≠ 0 →
          (w10 < least →
            K (-1) σ14) ∧ (least ≤ w10 →
            (w10 ≤ most →
              K w10 σ14) ∧ (most < w10 →
              K (-1) σ14))))) ∧
    (((σ7 6 3) ≤ y6 →
        J88 y4 y5 σ7) ∧ (y6 < (σ7 6 3) →
        q_T_byteAt y6 (fun r20 σ19 =>
          (r20 < 48 →
            J88 y4 y5 σ19) ∧ (48 ≤ r20 →
            q_T_byteAt y6 (fun r23 σ22 =>
              (57 < r23 →
                J88 y4 y5 σ22) ∧ (r23 ≤ 57 →
                zR (y4 + 1) ∧ (((y4 + 1) ≤ 2 →
                    q_T_byteAt y6 (fun r29 σ28 =>
                      ∀ x30 : Int, x30 = ((y5 * 10) + r29) - 48 → I15 (y4 + 1) x30 (y6 + 1) σ28 ∧ zR x30 ∧ zR (y6 + 1) ∧ μ15 (y4 + 1) x30 (y6 + 1) σ28 < μ15 y4 y5 y6 σ7) σ22) ∧ (2 < (y4 + 1) →
                    K (-1) σ22)))) σ19)) σ7))) σ
abbrev rm_X_number : Room := { frames := 2, cells := 0, slots := 0, locals := 41 }
set_option maxRecDepth 20000 in
set_option maxHeartbeats 4000000 in
theorem s_X_number {Ω : zO} {ad : Nat → Nat} {least : Int} {most : Int} {K : Int → zS → Prop} {σ : zS} (hleast : zR least) (hmost : zR most) (h : q_X_number least most K σ) : zMi Ω y_X_number (.code y_X_number c_X_number 6 (some .int)) rm_X_number zLy ad [.ref (ad 6), .int (zI least), .int (zI most)] σ K := by
  refine z_ofi (lv := [(0, .ref (ad 6)), (1, .int (zI least)), (2, .int (zI most))]) (by decide) rfl (Nat.le_of_ble_eq_true rfl) ?_
  intro Γ Q cx rt
  unfold q_X_number at h
  refine v_aload_n cx 0 d_X_number_0 rfl rfl ?_
  refine v_callVv0 (st := []) cx (s_X_toNextThing  h) yk_X_toNextThing lk_X_80 zl_6 rfl rfl rfl (Nat.le_of_ble_eq_true rfl) ⟨Nat.le_of_ble_eq_true rfl, Nat.le_of_ble_eq_true rfl⟩ ⟨rfl, rfl⟩ ⟨(Nat.le_of_ble_eq_true rfl), (Nat.le_of_ble_eq_true rfl)⟩ d_X_number_1 (fun σ1 h => ?_)
  refine v_iconst cx d_X_number_4 ?_
  refine v_istore_n (lv' := [(0, .ref (ad 6)), (1, .int (zI least)), (2, .int (zI most)), (3, .int (zI 0))]) cx d_X_number_5 rfl (by decide) rfl rfl ?_
  refine v_iconst cx d_X_number_6 ?_
  refine v_istore (lv' := [(0, .ref (ad 6)), (1, .int (zI least)), (2, .int (zI most)), (3, .int (zI 0)), (4, .int (zI 0))]) cx d_X_number_7 (by decide) rfl rfl ?_
  refine v_aload_n cx 0 d_X_number_9 rfl rfl ?_
  refine gf_X_62 cx d_X_number_10 (fun hl2 => ?_)
  refine v_nm (fun x3 ex3 => ?_)
  replace h := h x3 ex3
  have hx3 : zR x3 := by rw [ex3]; exact hl2
  refine v_istore (lv' := [(0, .ref (ad 6)), (1, .int (zI least)), (2, .int (zI most)), (3, .int (zI 0)), (4, .int (zI 0)), (5, .int (zI x3))]) cx d_X_number_13 (by decide) rfl rfl ?_
  obtain ⟨I15, μ15, h0, h⟩ := h
  have L15 : ∀ (N15 : Nat) (y4 y5 y6 : Int) (σ7 : zS), μ15 y4 y5 y6 σ7 < N15 → I15 y4 y5 y6 σ7 → zR y4 → zR y5 → zR y6 → zV Ω Γ rm_X_number 6 Q 0 0 zLy ad σ7 15 [(0, .ref (ad 6)), (1, .int (zI least)), (2, .int (zI most)), (3, .int (zI y4)), (4, .int (zI y5)), (5, .int (zI y6))] [] := by
    intro N15
    induction N15 with
    | zero => intro y4 y5 y6 σ7 hm; exact absurd hm (Nat.not_lt_zero _)
    | succ N15 ih15 =>
      intro y4 y5 y6 σ7 hmm15 hI hy4 hy5 hy6
      replace h := h y4 y5 y6 σ7 hI hy4 hy5 hy6
      refine v_iload cx 5 d_X_number_15 rfl ?_
      refine v_aload_n cx 0 d_X_number_17 rfl rfl ?_
      refine gf_X_31 cx d_X_number_18 (fun hl8 => ?_)
      obtain ⟨J88, hJ88, h⟩ := h
      have G88 : ∀ (w9 w10 : Int) (σ11 : zS), J88 w9 w10 σ11 → zR w9 → zR w10 → zV Ω Γ rm_X_number 6 Q 0 0 zLy ad σ11 88 [(0, .ref (ad 6)), (1, .int (zI least)), (2, .int (zI most)), (3, .int (zI w9)), (4, .int (zI w10))] [] := by
        intro w9 w10 σ11 hJ hw9 hw10
        replace h := hJ88 w9 w10 σ11 hJ hw9 hw10
        refine v_aload_n cx 0 d_X_number_88 rfl rfl ?_
        refine v_aload_n cx 0 d_X_number_89 rfl rfl ?_
        refine gf_X_62 cx d_X_number_90 (fun hl12 => ?_)
        refine v_iload_n cx 3 d_X_number_93 rfl rfl ?_
        refine v_iadd cx d_X_number_94 ?_
        obtain ⟨hr13, h⟩ := h
        refine pf_X_34 cx hr13 d_X_number_95 ?_
        refine v_ns (fun σ14 eσ14 => ?_)
        replace h := h σ14 eσ14
        refine v_iload_n cx 3 d_X_number_98 rfl rfl ?_
        refine v_if_eq cx 114 d_X_number_99 (by decide) hw9 (fun c15 => ?_) (fun c15 => ?_)
        · replace h := h.1 c15
          refine v_iconst cx d_X_number_114 ?_
          refine v_goto cx 120 d_X_number_115 (by decide) ?_
          exact rt _ _ _ _ _ _ (Nat.le_of_ble_eq_true rfl) (Nat.le_of_ble_eq_true rfl) d_X_number_120 ⟨by decide, by decide⟩ h
        · replace h := h.2 c15
          refine v_iload cx 4 d_X_number_102 rfl ?_
          refine v_iload_n cx 1 d_X_number_104 rfl rfl ?_
          refine v_icmp_lt cx 114 d_X_number_105 (by decide) hw10 hleast (fun c16 => ?_) (fun c16 => ?_)
          · replace h := h.1 c16
            refine v_iconst cx d_X_number_114 ?_
            refine v_goto cx 120 d_X_number_115 (by decide) ?_
            exact rt _ _ _ _ _ _ (Nat.le_of_ble_eq_true rfl) (Nat.le_of_ble_eq_true rfl) d_X_number_120 ⟨by decide, by decide⟩ h
          · replace h := h.2 c16
            refine v_iload cx 4 d_X_number_108 rfl ?_
            refine v_iload_n cx 2 d_X_number_110 rfl rfl ?_
            refine v_icmp_le cx 118 d_X_number_111 (by decide) hw10 hmost (fun c17 => ?_) (fun c17 => ?_)
            · replace h := h.1 c17
              refine v_iload cx 4 d_X_number_118 rfl ?_
              exact rt _ _ _ _ _ _ (Nat.le_of_ble_eq_true rfl) (Nat.le_of_ble_eq_true rfl) d_X_number_120 hw10 h
            · replace h := h.2 c17
              refine v_iconst cx d_X_number_114 ?_
              refine v_goto cx 120 d_X_number_115 (by decide) ?_
              exact rt _ _ _ _ _ _ (Nat.le_of_ble_eq_true rfl) (Nat.le_of_ble_eq_true rfl) d_X_number_120 ⟨by decide, by decide⟩ h
      refine v_icmp_ge cx 88 d_X_number_21 (by decide) hy6 hl8 (fun c18 => ?_) (fun c18 => ?_)
      · replace h := h.1 c18
        refine v_sb (lv' := [(0, .ref (ad 6)), (1, .int (zI least)), (2, .int (zI most)), (3, .int (zI y4)), (4, .int (zI y5))]) [0, 1, 2, 3, 4] rfl ?_
        have hJ2 := h
        exact G88 _ _ _ hJ2 hy4 hy5
      · replace h := h.2 c18
        refine v_aload_n cx 0 d_X_number_24 rfl rfl ?_
        refine gf_X_9 cx d_X_number_25 ?_
        refine v_iload cx 5 d_X_number_28 rfl ?_
        refine v_callVi0 (st := []) cx (s_T_byteAt hy6 h) yk_T_byteAt lk_X_105 zl_1 rfl rfl rfl (Nat.le_of_ble_eq_true rfl) ⟨Nat.le_of_ble_eq_true rfl, Nat.le_of_ble_eq_true rfl⟩ ⟨rfl, rfl⟩ ⟨(Nat.le_of_ble_eq_true rfl), (Nat.le_of_ble_eq_true rfl)⟩ d_X_number_30 (fun r20 σ19 hr20 h => ?_)
        refine v_bipush cx (by decide) d_X_number_33 ?_
        refine v_icmp_lt cx 88 d_X_number_35 (by decide) hr20 ⟨by decide, by decide⟩ (fun c21 => ?_) (fun c21 => ?_)
        · replace h := h.1 c21
          refine v_sb (lv' := [(0, .ref (ad 6)), (1, .int (zI least)), (2, .int (zI most)), (3, .int (zI y4)), (4, .int (zI y5))]) [0, 1, 2, 3, 4] rfl ?_
          have hJ2 := h
          exact G88 _ _ _ hJ2 hy4 hy5
        · replace h := h.2 c21
          refine v_aload_n cx 0 d_X_number_38 rfl rfl ?_
          refine gf_X_9 cx d_X_number_39 ?_
          refine v_iload cx 5 d_X_number_42 rfl ?_
          refine v_callVi0 (st := []) cx (s_T_byteAt hy6 h) yk_T_byteAt lk_X_105 zl_1 rfl rfl rfl (Nat.le_of_ble_eq_true rfl) ⟨Nat.le_of_ble_eq_true rfl, Nat.le_of_ble_eq_true rfl⟩ ⟨rfl, rfl⟩ ⟨(Nat.le_of_ble_eq_true rfl), (Nat.le_of_ble_eq_true rfl)⟩ d_X_number_44 (fun r23 σ22 hr23 h => ?_)
          refine v_bipush cx (by decide) d_X_number_47 ?_
          refine v_icmp_gt cx 88 d_X_number_49 (by decide) hr23 ⟨by decide, by decide⟩ (fun c24 => ?_) (fun c24 => ?_)
          · replace h := h.1 c24
            refine v_sb (lv' := [(0, .ref (ad 6)), (1, .int (zI least)), (2, .int (zI most)), (3, .int (zI y4)), (4, .int (zI y5))]) [0, 1, 2, 3, 4] rfl ?_
            have hJ2 := h
            exact G88 _ _ _ hJ2 hy4 hy5
          · replace h := h.2 c24
            refine v_iinc (lv' := [(0, .ref (ad 6)), (1, .int (zI least)), (2, .int (zI most)), (3, .int (zI (y4 + 1))), (4, .int (zI y5)), (5, .int (zI y6))]) cx 3 d_X_number_52 rfl (by decide) rfl rfl ?_
            refine v_iload_n cx 3 d_X_number_55 rfl rfl ?_
            refine v_iconst cx d_X_number_56 ?_
            obtain ⟨hr26, h⟩ := h
            refine v_icmp_le cx 62 d_X_number_57 (by decide) hr26 ⟨by decide, by decide⟩ (fun c27 => ?_) (fun c27 => ?_)
            · replace h := h.1 c27
              refine v_iload cx 4 d_X_number_62 rfl ?_
              refine v_bipush cx (by decide) d_X_number_64 ?_
              refine v_imul cx d_X_number_66 ?_
              refine v_aload_n cx 0 d_X_number_67 rfl rfl ?_
              refine gf_X_9 cx d_X_number_68 ?_
              refine v_iload cx 5 d_X_number_71 rfl ?_
              refine v_callVi0 (st := [.int (zI (y5 * 10))]) cx (s_T_byteAt hy6 h) yk_T_byteAt lk_X_105 zl_1 rfl rfl rfl (Nat.le_of_ble_eq_true rfl) ⟨Nat.le_of_ble_eq_true rfl, Nat.le_of_ble_eq_true rfl⟩ ⟨rfl, rfl⟩ ⟨(Nat.le_of_ble_eq_true rfl), (Nat.le_of_ble_eq_true rfl)⟩ d_X_number_73 (fun r29 σ28 hr29 h => ?_)
              refine v_iadd cx d_X_number_76 ?_
              refine v_bipush cx (by decide) d_X_number_77 ?_
              refine v_isub cx d_X_number_79 ?_
              refine v_nm (fun x30 ex30 => ?_)
              replace h := h x30 ex30
              refine v_istore (lv' := [(0, .ref (ad 6)), (1, .int (zI least)), (2, .int (zI most)), (3, .int (zI (y4 + 1))), (4, .int (zI x30)), (5, .int (zI y6))]) cx d_X_number_80 (by decide) rfl rfl ?_
              refine v_iinc (lv' := [(0, .ref (ad 6)), (1, .int (zI least)), (2, .int (zI most)), (3, .int (zI (y4 + 1))), (4, .int (zI x30)), (5, .int (zI (y6 + 1)))]) cx 5 d_X_number_82 rfl (by decide) rfl rfl ?_
              refine v_goto cx 15 d_X_number_85 (by decide) ?_
              obtain ⟨hI2, hz32, hz33, hm2⟩ := h
              exact ih15 _ _ _ _ (Nat.lt_of_lt_of_le hm2 (Nat.le_of_lt_succ hmm15)) hI2 hr26 hz32 hz33
            · replace h := h.2 c27
              refine v_iconst cx d_X_number_60 ?_
              exact rt _ _ _ _ _ _ (Nat.le_of_ble_eq_true rfl) (Nat.le_of_ble_eq_true rfl) d_X_number_61 ⟨by decide, by decide⟩ h
  exact L15 _ _ _ _ _ (Nat.lt_succ_self _) h0 ⟨by decide, by decide⟩ ⟨by decide, by decide⟩ hx3
def q_X_readNumber (least : Int) (most : Int) (cell : Int) (K : Int → zS → Prop) (σ : zS) : Prop :=
  q_X_number least most (fun r2 σ1 =>
    (r2 ≠ (-1) →
      (0 ≤ cell ∧ cell < 499) ∧ (∀ σ5 : zS, σ5 = zU σ1 7 cell r2 → K 1 σ5)) ∧ (r2 = (-1) →
      K 0 σ1)) σ
abbrev rm_X_readNumber : Room := { frames := 3, cells := 0, slots := 0, locals := 66 }
set_option maxRecDepth 20000 in
set_option maxHeartbeats 4000000 in
theorem s_X_readNumber {Ω : zO} {ad : Nat → Nat} {least : Int} {most : Int} {cell : Int} {K : Int → zS → Prop} {σ : zS} (hleast : zR least) (hmost : zR most) (hcell : zR cell) (h : q_X_readNumber least most cell K σ) : zMz Ω y_X_readNumber (.code y_X_readNumber c_X_readNumber 5 (some .boolean)) rm_X_readNumber zLy ad [.ref (ad 6), .int (zI least), .int (zI most), .int (zI cell)] σ K := by
  refine z_ofz (lv := [(0, .ref (ad 6)), (1, .int (zI least)), (2, .int (zI most)), (3, .int (zI cell))]) (by decide) rfl (Nat.le_of_ble_eq_true rfl) ?_
  intro Γ Q cx rt
  unfold q_X_readNumber at h
  refine v_aload_n cx 0 d_X_readNumber_0 rfl rfl ?_
  refine v_iload_n cx 1 d_X_readNumber_1 rfl rfl ?_
  refine v_iload_n cx 2 d_X_readNumber_2 rfl rfl ?_
  refine v_callVi0 (st := []) cx (s_X_number hleast hmost h) yk_X_number lk_X_101 zl_6 rfl rfl rfl (Nat.le_of_ble_eq_true rfl) ⟨Nat.le_of_ble_eq_true rfl, Nat.le_of_ble_eq_true rfl⟩ ⟨rfl, rfl⟩ ⟨(Nat.le_of_ble_eq_true rfl), (Nat.le_of_ble_eq_true rfl)⟩ d_X_readNumber_3 (fun r2 σ1 hr2 h => ?_)
  refine v_istore (lv' := [(0, .ref (ad 6)), (1, .int (zI least)), (2, .int (zI most)), (3, .int (zI cell)), (4, .int (zI r2))]) cx d_X_readNumber_6 (by decide) rfl rfl ?_
  refine v_iload cx 4 d_X_readNumber_8 rfl ?_
  refine v_iconst cx d_X_readNumber_10 ?_
  refine v_icmp_ne cx 16 d_X_readNumber_11 (by decide) hr2 ⟨by decide, by decide⟩ (fun c3 => ?_) (fun c3 => ?_)
  · replace h := h.1 c3
    refine v_aload_n cx 0 d_X_readNumber_16 rfl rfl ?_
    refine gf_X_17 cx d_X_readNumber_17 ?_
    refine v_iload_n cx 3 d_X_readNumber_20 rfl rfl ?_
    refine v_iload cx 4 d_X_readNumber_21 rfl ?_
    obtain ⟨hb4, h⟩ := h
    refine v_iast cx zl_7 (by decide) hb4.1 hb4.2 hr2 d_X_readNumber_23 ?_
    refine v_ns (fun σ5 eσ5 => ?_)
    replace h := h σ5 eσ5
    refine v_iconst cx d_X_readNumber_24 ?_
    exact rt _ _ _ _ _ _ (Nat.le_of_ble_eq_true rfl) (Nat.le_of_ble_eq_true rfl) d_X_readNumber_25 (Or.inr rfl) h
  · replace h := h.2 c3
    refine v_iconst cx d_X_readNumber_14 ?_
    exact rt _ _ _ _ _ _ (Nat.le_of_ble_eq_true rfl) (Nat.le_of_ble_eq_true rfl) d_X_readNumber_15 (Or.inl rfl) h
def q_X_readWet (K : Int → zS → Prop) (σ : zS) : Prop :=
  ∀ x3 : Int, x3 = (σ 7 0) * (σ 7 1) → zR (x3 - 1) ∧ (q_X_number 0 (x3 - 1) (fun r6 σ5 =>
      (r6 = (-1) →
        K 0 σ5) ∧ (r6 ≠ (-1) →
        (0 ≤ 94 + r6 ∧ 94 + r6 < 499) ∧ (((σ5 7 (94 + r6)) = 0 →
            ∀ σ11 : zS, σ11 = zU σ5 7 (94 + r6) 1 → K 1 σ11) ∧ ((σ5 7 (94 + r6)) ≠ 0 →
            K 0 σ5)))) σ)
abbrev rm_X_readWet : Room := { frames := 3, cells := 0, slots := 0, locals := 66 }
set_option maxRecDepth 20000 in
set_option maxHeartbeats 4000000 in
theorem s_X_readWet {Ω : zO} {ad : Nat → Nat} {K : Int → zS → Prop} {σ : zS}  (h : q_X_readWet K σ) : zMz Ω y_X_readWet (.code y_X_readWet c_X_readWet 3 (some .boolean)) rm_X_readWet zLy ad [.ref (ad 6)] σ K := by
  refine z_ofz (lv := [(0, .ref (ad 6))]) (by decide) rfl (Nat.le_of_ble_eq_true rfl) ?_
  intro Γ Q cx rt
  unfold q_X_readWet at h
  refine v_aload_n cx 0 d_X_readWet_0 rfl rfl ?_
  refine gf_X_17 cx d_X_readWet_1 ?_
  refine v_iconst cx d_X_readWet_4 ?_
  refine v_iald cx zl_7 (by decide) (by decide) (by decide) d_X_readWet_5 (fun hl1 => ?_)
  refine v_aload_n cx 0 d_X_readWet_6 rfl rfl ?_
  refine gf_X_17 cx d_X_readWet_7 ?_
  refine v_iconst cx d_X_readWet_10 ?_
  refine v_iald cx zl_7 (by decide) (by decide) (by decide) d_X_readWet_11 (fun hl2 => ?_)
  refine v_imul cx d_X_readWet_12 ?_
  refine v_nm (fun x3 ex3 => ?_)
  replace h := h x3 ex3
  refine v_istore_n (lv' := [(0, .ref (ad 6)), (1, .int (zI x3))]) cx d_X_readWet_13 rfl (by decide) rfl rfl ?_
  refine v_aload_n cx 0 d_X_readWet_14 rfl rfl ?_
  refine v_iconst cx d_X_readWet_15 ?_
  refine v_iload_n cx 1 d_X_readWet_16 rfl rfl ?_
  refine v_iconst cx d_X_readWet_17 ?_
  refine v_isub cx d_X_readWet_18 ?_
  obtain ⟨hr4, h⟩ := h
  refine v_callVi0 (st := []) cx (s_X_number ⟨by decide, by decide⟩ hr4 h) yk_X_number lk_X_101 zl_6 rfl rfl rfl (Nat.le_of_ble_eq_true rfl) ⟨Nat.le_of_ble_eq_true rfl, Nat.le_of_ble_eq_true rfl⟩ ⟨rfl, rfl⟩ ⟨(Nat.le_of_ble_eq_true rfl), (Nat.le_of_ble_eq_true rfl)⟩ d_X_readWet_19 (fun r6 σ5 hr6 h => ?_)
  refine v_istore_n (lv' := [(0, .ref (ad 6)), (1, .int (zI x3)), (2, .int (zI r6))]) cx d_X_readWet_22 rfl (by decide) rfl rfl ?_
  refine v_iload_n cx 2 d_X_readWet_23 rfl rfl ?_
  refine v_iconst cx d_X_readWet_24 ?_
  refine v_icmp_eq cx 40 d_X_readWet_25 (by decide) hr6 ⟨by decide, by decide⟩ (fun c7 => ?_) (fun c7 => ?_)
  · replace h := h.1 c7
    refine v_iconst cx d_X_readWet_40 ?_
    exact rt _ _ _ _ _ _ (Nat.le_of_ble_eq_true rfl) (Nat.le_of_ble_eq_true rfl) d_X_readWet_41 (Or.inl rfl) h
  · replace h := h.2 c7
    refine v_aload_n cx 0 d_X_readWet_28 rfl rfl ?_
    refine gf_X_17 cx d_X_readWet_29 ?_
    refine v_bipush cx (by decide) d_X_readWet_32 ?_
    refine v_iload_n cx 2 d_X_readWet_34 rfl rfl ?_
    refine v_iadd cx d_X_readWet_35 ?_
    obtain ⟨hb8, h⟩ := h
    refine v_iald cx zl_7 (by decide) hb8.1 hb8.2 d_X_readWet_36 (fun hl9 => ?_)
    refine v_if_eq cx 42 d_X_readWet_37 (by decide) hl9 (fun c10 => ?_) (fun c10 => ?_)
    · replace h := h.1 c10
      refine v_aload_n cx 0 d_X_readWet_42 rfl rfl ?_
      refine gf_X_17 cx d_X_readWet_43 ?_
      refine v_bipush cx (by decide) d_X_readWet_46 ?_
      refine v_iload_n cx 2 d_X_readWet_48 rfl rfl ?_
      refine v_iadd cx d_X_readWet_49 ?_
      refine v_iconst cx d_X_readWet_50 ?_
      refine v_iast cx zl_7 (by decide) hb8.1 hb8.2 ⟨by decide, by decide⟩ d_X_readWet_51 ?_
      refine v_ns (fun σ11 eσ11 => ?_)
      replace h := h σ11 eσ11
      refine v_iconst cx d_X_readWet_52 ?_
      exact rt _ _ _ _ _ _ (Nat.le_of_ble_eq_true rfl) (Nat.le_of_ble_eq_true rfl) d_X_readWet_53 (Or.inr rfl) h
    · replace h := h.2 c10
      refine v_iconst cx d_X_readWet_40 ?_
      exact rt _ _ _ _ _ _ (Nat.le_of_ble_eq_true rfl) (Nat.le_of_ble_eq_true rfl) d_X_readWet_41 (Or.inl rfl) h
def q_X_readWord (w : List Int) (K : Int → zS → Prop) (σ : zS) : Prop :=
  q_X_toNextThing (fun σ1 =>
    ∀ x3 : Int, x3 = σ1 6 5 → ∃ (I11 : Int → Int → zS → Prop) (μ11 : Int → Int → zS → Nat), (I11 0 x3 σ1) ∧ ∀ (y4 y5 : Int) (σ6 : zS), I11 y4 y5 σ6 → zR y4 → zR y5 → 
    ∃ J80 : Int → zS → Prop, (∀ (w8 : Int) (σ9 : zS), J80 w8 σ9 → zR w8 → 
      q_J_len w (fun r11 σ10 =>
        (w8 = r11 →
          zR ((σ10 6 5) + w8) ∧ (∀ σ15 : zS, σ15 = zU σ10 6 4 ((σ10 6 5) + w8) → K 1 σ15)) ∧ (w8 ≠ r11 →
          K 0 σ10)) σ9) ∧
    (((σ6 6 3) ≤ y5 →
        J80 y4 σ6) ∧ (y5 < (σ6 6 3) →
        q_T_byteAt y5 (fun r18 σ17 =>
          (r18 < 97 →
            J80 y4 σ17) ∧ (97 ≤ r18 →
            q_T_byteAt y5 (fun r21 σ20 =>
              (122 < r21 →
                J80 y4 σ20) ∧ (r21 ≤ 122 →
                q_J_len w (fun r24 σ23 =>
                  (r24 ≤ y4 →
                    K 0 σ23) ∧ (y4 < r24 →
                    q_T_byteAt y5 (fun r27 σ26 =>
                      q_J_charAt w y4 (fun r29 σ28 =>
                        (r27 = r29 →
                          I11 (y4 + 1) (y5 + 1) σ28 ∧ zR (y4 + 1) ∧ zR (y5 + 1) ∧ μ11 (y4 + 1) (y5 + 1) σ28 < μ11 y4 y5 σ6) ∧ (r27 ≠ r29 →
                          K 0 σ28)) σ26) σ23)) σ20)) σ17)) σ6))) σ
abbrev rm_X_readWord : Room := { frames := 4, cells := 0, slots := 0, locals := 85 }
set_option maxRecDepth 20000 in
set_option maxHeartbeats 4000000 in
theorem s_X_readWord {Ω : zO} {ad : Nat → Nat} {j : Nat} {w : List Int} {K : Int → zS → Prop} {σ : zS} (hj : (j, w) ∈ zSB) (h : q_X_readWord w K σ) : zMz Ω y_X_readWord (.code y_X_readWord c_X_readWord 4 (some .boolean)) rm_X_readWord zLy ad [.ref (ad 6), .ref (Ω.2.2.2.2 j)] σ K := by
  refine z_ofz (lv := [(0, .ref (ad 6)), (1, .ref (Ω.2.2.2.2 j))]) (by decide) rfl (Nat.le_of_ble_eq_true rfl) ?_
  intro Γ Q cx rt
  unfold q_X_readWord at h
  refine v_aload_n cx 0 d_X_readWord_0 rfl rfl ?_
  refine v_callVv0 (st := []) cx (s_X_toNextThing  h) yk_X_toNextThing lk_X_80 zl_6 rfl rfl rfl (Nat.le_of_ble_eq_true rfl) ⟨Nat.le_of_ble_eq_true rfl, Nat.le_of_ble_eq_true rfl⟩ ⟨rfl, rfl⟩ ⟨(Nat.le_of_ble_eq_true rfl), (Nat.le_of_ble_eq_true rfl)⟩ d_X_readWord_1 (fun σ1 h => ?_)
  refine v_iconst cx d_X_readWord_4 ?_
  refine v_istore_n (lv' := [(0, .ref (ad 6)), (1, .ref (Ω.2.2.2.2 j)), (2, .int (zI 0))]) cx d_X_readWord_5 rfl (by decide) rfl rfl ?_
  refine v_aload_n cx 0 d_X_readWord_6 rfl rfl ?_
  refine gf_X_62 cx d_X_readWord_7 (fun hl2 => ?_)
  refine v_nm (fun x3 ex3 => ?_)
  replace h := h x3 ex3
  have hx3 : zR x3 := by rw [ex3]; exact hl2
  refine v_istore_n (lv' := [(0, .ref (ad 6)), (1, .ref (Ω.2.2.2.2 j)), (2, .int (zI 0)), (3, .int (zI x3))]) cx d_X_readWord_10 rfl (by decide) rfl rfl ?_
  obtain ⟨I11, μ11, h0, h⟩ := h
  have L11 : ∀ (N11 : Nat) (y4 y5 : Int) (σ6 : zS), μ11 y4 y5 σ6 < N11 → I11 y4 y5 σ6 → zR y4 → zR y5 → zV Ω Γ rm_X_readWord 4 Q 0 0 zLy ad σ6 11 [(0, .ref (ad 6)), (1, .ref (Ω.2.2.2.2 j)), (2, .int (zI y4)), (3, .int (zI y5))] [] := by
    intro N11
    induction N11 with
    | zero => intro y4 y5 σ6 hm; exact absurd hm (Nat.not_lt_zero _)
    | succ N11 ih11 =>
      intro y4 y5 σ6 hmm11 hI hy4 hy5
      replace h := h y4 y5 σ6 hI hy4 hy5
      refine v_iload_n cx 3 d_X_readWord_11 rfl rfl ?_
      refine v_aload_n cx 0 d_X_readWord_12 rfl rfl ?_
      refine gf_X_31 cx d_X_readWord_13 (fun hl7 => ?_)
      obtain ⟨J80, hJ80, h⟩ := h
      have G80 : ∀ (w8 : Int) (σ9 : zS), J80 w8 σ9 → zR w8 → zV Ω Γ rm_X_readWord 4 Q 0 0 zLy ad σ9 80 [(0, .ref (ad 6)), (1, .ref (Ω.2.2.2.2 j)), (2, .int (zI w8))] [] := by
        intro w8 σ9 hJ hw8
        replace h := hJ80 w8 σ9 hJ hw8
        refine v_iload_n cx 2 d_X_readWord_80 rfl rfl ?_
        refine v_aload_n cx 1 d_X_readWord_81 rfl rfl ?_
        refine v_callTi0 (st := [.int (zI w8)]) cx (s2_J_len hj h) yk_J_len lk_X_109 hj rfl rfl rfl (Nat.le_of_ble_eq_true rfl) ⟨Nat.le_of_ble_eq_true rfl, Nat.le_of_ble_eq_true rfl⟩ ⟨rfl, rfl⟩ ⟨Nat.le_of_ble_eq_true rfl, Nat.le_of_ble_eq_true rfl⟩ d_X_readWord_82 (fun r11 σ10 hr11 h => ?_)
        refine v_icmp_eq cx 90 d_X_readWord_85 (by decide) hw8 hr11 (fun c12 => ?_) (fun c12 => ?_)
        · replace h := h.1 c12
          refine v_aload_n cx 0 d_X_readWord_90 rfl rfl ?_
          refine v_aload_n cx 0 d_X_readWord_91 rfl rfl ?_
          refine gf_X_62 cx d_X_readWord_92 (fun hl13 => ?_)
          refine v_iload_n cx 2 d_X_readWord_95 rfl rfl ?_
          refine v_iadd cx d_X_readWord_96 ?_
          obtain ⟨hr14, h⟩ := h
          refine pf_X_34 cx hr14 d_X_readWord_97 ?_
          refine v_ns (fun σ15 eσ15 => ?_)
          replace h := h σ15 eσ15
          refine v_iconst cx d_X_readWord_100 ?_
          exact rt _ _ _ _ _ _ (Nat.le_of_ble_eq_true rfl) (Nat.le_of_ble_eq_true rfl) d_X_readWord_101 (Or.inr rfl) h
        · replace h := h.2 c12
          refine v_iconst cx d_X_readWord_88 ?_
          exact rt _ _ _ _ _ _ (Nat.le_of_ble_eq_true rfl) (Nat.le_of_ble_eq_true rfl) d_X_readWord_89 (Or.inl rfl) h
      refine v_icmp_ge cx 80 d_X_readWord_16 (by decide) hy5 hl7 (fun c16 => ?_) (fun c16 => ?_)
      · replace h := h.1 c16
        refine v_sb (lv' := [(0, .ref (ad 6)), (1, .ref (Ω.2.2.2.2 j)), (2, .int (zI y4))]) [0, 1, 2] rfl ?_
        have hJ2 := h
        exact G80 _ _ hJ2 hy4
      · replace h := h.2 c16
        refine v_aload_n cx 0 d_X_readWord_19 rfl rfl ?_
        refine gf_X_9 cx d_X_readWord_20 ?_
        refine v_iload_n cx 3 d_X_readWord_23 rfl rfl ?_
        refine v_callVi0 (st := []) cx (s_T_byteAt hy5 h) yk_T_byteAt lk_X_105 zl_1 rfl rfl rfl (Nat.le_of_ble_eq_true rfl) ⟨Nat.le_of_ble_eq_true rfl, Nat.le_of_ble_eq_true rfl⟩ ⟨rfl, rfl⟩ ⟨(Nat.le_of_ble_eq_true rfl), (Nat.le_of_ble_eq_true rfl)⟩ d_X_readWord_24 (fun r18 σ17 hr18 h => ?_)
        refine v_bipush cx (by decide) d_X_readWord_27 ?_
        refine v_icmp_lt cx 80 d_X_readWord_29 (by decide) hr18 ⟨by decide, by decide⟩ (fun c19 => ?_) (fun c19 => ?_)
        · replace h := h.1 c19
          refine v_sb (lv' := [(0, .ref (ad 6)), (1, .ref (Ω.2.2.2.2 j)), (2, .int (zI y4))]) [0, 1, 2] rfl ?_
          have hJ2 := h
          exact G80 _ _ hJ2 hy4
        · replace h := h.2 c19
          refine v_aload_n cx 0 d_X_readWord_32 rfl rfl ?_
          refine gf_X_9 cx d_X_readWord_33 ?_
          refine v_iload_n cx 3 d_X_readWord_36 rfl rfl ?_
          refine v_callVi0 (st := []) cx (s_T_byteAt hy5 h) yk_T_byteAt lk_X_105 zl_1 rfl rfl rfl (Nat.le_of_ble_eq_true rfl) ⟨Nat.le_of_ble_eq_true rfl, Nat.le_of_ble_eq_true rfl⟩ ⟨rfl, rfl⟩ ⟨(Nat.le_of_ble_eq_true rfl), (Nat.le_of_ble_eq_true rfl)⟩ d_X_readWord_37 (fun r21 σ20 hr21 h => ?_)
          refine v_bipush cx (by decide) d_X_readWord_40 ?_
          refine v_icmp_gt cx 80 d_X_readWord_42 (by decide) hr21 ⟨by decide, by decide⟩ (fun c22 => ?_) (fun c22 => ?_)
          · replace h := h.1 c22
            refine v_sb (lv' := [(0, .ref (ad 6)), (1, .ref (Ω.2.2.2.2 j)), (2, .int (zI y4))]) [0, 1, 2] rfl ?_
            have hJ2 := h
            exact G80 _ _ hJ2 hy4
          · replace h := h.2 c22
            refine v_iload_n cx 2 d_X_readWord_45 rfl rfl ?_
            refine v_aload_n cx 1 d_X_readWord_46 rfl rfl ?_
            refine v_callTi0 (st := [.int (zI y4)]) cx (s2_J_len hj h) yk_J_len lk_X_109 hj rfl rfl rfl (Nat.le_of_ble_eq_true rfl) ⟨Nat.le_of_ble_eq_true rfl, Nat.le_of_ble_eq_true rfl⟩ ⟨rfl, rfl⟩ ⟨Nat.le_of_ble_eq_true rfl, Nat.le_of_ble_eq_true rfl⟩ d_X_readWord_47 (fun r24 σ23 hr24 h => ?_)
            refine v_icmp_ge cx 69 d_X_readWord_50 (by decide) hy4 hr24 (fun c25 => ?_) (fun c25 => ?_)
            · replace h := h.1 c25
              refine v_iconst cx d_X_readWord_69 ?_
              exact rt _ _ _ _ _ _ (Nat.le_of_ble_eq_true rfl) (Nat.le_of_ble_eq_true rfl) d_X_readWord_70 (Or.inl rfl) h
            · replace h := h.2 c25
              refine v_aload_n cx 0 d_X_readWord_53 rfl rfl ?_
              refine gf_X_9 cx d_X_readWord_54 ?_
              refine v_iload_n cx 3 d_X_readWord_57 rfl rfl ?_
              refine v_callVi0 (st := []) cx (s_T_byteAt hy5 h) yk_T_byteAt lk_X_105 zl_1 rfl rfl rfl (Nat.le_of_ble_eq_true rfl) ⟨Nat.le_of_ble_eq_true rfl, Nat.le_of_ble_eq_true rfl⟩ ⟨rfl, rfl⟩ ⟨(Nat.le_of_ble_eq_true rfl), (Nat.le_of_ble_eq_true rfl)⟩ d_X_readWord_58 (fun r27 σ26 hr27 h => ?_)
              refine v_aload_n cx 1 d_X_readWord_61 rfl rfl ?_
              refine v_iload_n cx 2 d_X_readWord_62 rfl rfl ?_
              refine v_callTi0 (st := [.int (zI r27)]) cx (s2_J_charAt hj hy4 h) yk_J_charAt lk_X_114 hj rfl rfl rfl (Nat.le_of_ble_eq_true rfl) ⟨Nat.le_of_ble_eq_true rfl, Nat.le_of_ble_eq_true rfl⟩ ⟨rfl, rfl⟩ ⟨Nat.le_of_ble_eq_true rfl, Nat.le_of_ble_eq_true rfl⟩ d_X_readWord_63 (fun r29 σ28 hr29 h => ?_)
              refine v_icmp_eq cx 71 d_X_readWord_66 (by decide) hr27 hr29 (fun c30 => ?_) (fun c30 => ?_)
              · replace h := h.1 c30
                refine v_iinc (lv' := [(0, .ref (ad 6)), (1, .ref (Ω.2.2.2.2 j)), (2, .int (zI (y4 + 1))), (3, .int (zI y5))]) cx 2 d_X_readWord_71 rfl (by decide) rfl rfl ?_
                refine v_iinc (lv' := [(0, .ref (ad 6)), (1, .ref (Ω.2.2.2.2 j)), (2, .int (zI (y4 + 1))), (3, .int (zI (y5 + 1)))]) cx 3 d_X_readWord_74 rfl (by decide) rfl rfl ?_
                refine v_goto cx 11 d_X_readWord_77 (by decide) ?_
                obtain ⟨hI2, hz33, hz34, hm2⟩ := h
                exact ih11 _ _ _ (Nat.lt_of_lt_of_le hm2 (Nat.le_of_lt_succ hmm11)) hI2 hz33 hz34
              · replace h := h.2 c30
                refine v_iconst cx d_X_readWord_69 ?_
                exact rt _ _ _ _ _ _ (Nat.le_of_ble_eq_true rfl) (Nat.le_of_ble_eq_true rfl) d_X_readWord_70 (Or.inl rfl) h
  exact L11 _ _ _ _ (Nat.lt_succ_self _) h0 ⟨by decide, by decide⟩ hx3
theorem zto_X_wordOf_1 {a : Int} (h0 : a ≠ 0) (h1 : a ≠ 1) (h2 : a ≠ 2) (h3 : a ≠ 3) (h4 : a ≠ 4) (h5 : a ≠ 5) (h6 : a ≠ 6) (h7 : a ≠ 7) (h8 : a ≠ 8) (h9 : a ≠ 9) : a < 0 ∨ 9 < a := by omega
def q_X_wordOf (which : Int) (K : List Int → zS → Prop) (σ : zS) : Prop :=
  (which = 0 →
    K [103, 114, 97, 100, 101] σ) ∧ (which = 1 →
    K [98, 101, 110, 100] σ) ∧ (which = 2 →
    K [102, 108, 97, 116] σ) ∧ (which = 3 →
    K [114, 105, 115, 101] σ) ∧ (which = 4 →
    K [116, 117, 114, 110] σ) ∧ (which = 5 →
    K [104, 97, 105, 114] σ) ∧ (which = 6 →
    K [98, 111, 114, 101] σ) ∧ (which = 7 →
    K [100, 101, 112, 116, 104] σ) ∧ (which = 8 →
    K [100, 105, 103] σ) ∧ (which = 9 →
    K [102, 105, 108, 108] σ) ∧ (which ≠ 0 ∧ which ≠ 1 ∧ which ≠ 2 ∧ which ≠ 3 ∧ which ≠ 4 ∧ which ≠ 5 ∧ which ≠ 6 ∧ which ≠ 7 ∧ which ≠ 8 ∧ which ≠ 9 →
    K [115, 112, 111, 105, 108] σ)
abbrev rm_X_wordOf : Room := { frames := 0, cells := 0, slots := 0, locals := 0 }
set_option maxRecDepth 20000 in
set_option maxHeartbeats 4000000 in
theorem s_X_wordOf {Ω : zO} {ad : Nat → Nat} {which : Int} {K : List Int → zS → Prop} {σ : zS} (hwhich : zR which) (h : q_X_wordOf which K σ) : zMr Ω y_X_wordOf (.code y_X_wordOf c_X_wordOf 1 (some (.object "java/lang/String"))) rm_X_wordOf zLy ad [.int (zI which)] σ (fun ra u => ∃ (j : Nat) (w : List Int), ra = Ω.2.2.2.2 j ∧ (j, w) ∈ zSB ∧ K w u) := by
  refine z_ofr (lv := [(0, .int (zI which))]) (Or.inl ⟨_, rfl⟩) (by decide) rfl (Nat.le_of_ble_eq_true rfl) ?_
  intro Γ Q cx rt
  unfold q_X_wordOf at h
  refine v_iload_n cx 0 d_X_wordOf_0 rfl rfl ?_
  by_cases c1 : which = 0
  · replace h := h.1 c1
    refine v_tableIn cx 56 d_X_wordOf_1 hwhich (by rw [c1]; decide) (by rw [c1]; decide) (by rw [c1]; rfl) (by decide) ?_
    refine v_ldcS cx zsr_13 d_X_wordOf_56 ?_
    exact rt _ _ _ _ _ _ (Nat.le_of_ble_eq_true rfl) (Nat.le_of_ble_eq_true rfl) d_X_wordOf_58 ⟨_, _, rfl, zsb_13, h⟩
  replace h := h.2
  by_cases c2 : which = 1
  · replace h := h.1 c2
    refine v_tableIn cx 59 d_X_wordOf_1 hwhich (by rw [c2]; decide) (by rw [c2]; decide) (by rw [c2]; rfl) (by decide) ?_
    refine v_ldcS cx zsr_14 d_X_wordOf_59 ?_
    exact rt _ _ _ _ _ _ (Nat.le_of_ble_eq_true rfl) (Nat.le_of_ble_eq_true rfl) d_X_wordOf_61 ⟨_, _, rfl, zsb_14, h⟩
  replace h := h.2
  by_cases c3 : which = 2
  · replace h := h.1 c3
    refine v_tableIn cx 62 d_X_wordOf_1 hwhich (by rw [c3]; decide) (by rw [c3]; decide) (by rw [c3]; rfl) (by decide) ?_
    refine v_ldcS cx zsr_15 d_X_wordOf_62 ?_
    exact rt _ _ _ _ _ _ (Nat.le_of_ble_eq_true rfl) (Nat.le_of_ble_eq_true rfl) d_X_wordOf_64 ⟨_, _, rfl, zsb_15, h⟩
  replace h := h.2
  by_cases c4 : which = 3
  · replace h := h.1 c4
    refine v_tableIn cx 65 d_X_wordOf_1 hwhich (by rw [c4]; decide) (by rw [c4]; decide) (by rw [c4]; rfl) (by decide) ?_
    refine v_ldcS cx zsr_16 d_X_wordOf_65 ?_
    exact rt _ _ _ _ _ _ (Nat.le_of_ble_eq_true rfl) (Nat.le_of_ble_eq_true rfl) d_X_wordOf_67 ⟨_, _, rfl, zsb_16, h⟩
  replace h := h.2
  by_cases c5 : which = 4
  · replace h := h.1 c5
    refine v_tableIn cx 68 d_X_wordOf_1 hwhich (by rw [c5]; decide) (by rw [c5]; decide) (by rw [c5]; rfl) (by decide) ?_
    refine v_ldcS cx zsr_17 d_X_wordOf_68 ?_
    exact rt _ _ _ _ _ _ (Nat.le_of_ble_eq_true rfl) (Nat.le_of_ble_eq_true rfl) d_X_wordOf_70 ⟨_, _, rfl, zsb_17, h⟩
  replace h := h.2
  by_cases c6 : which = 5
  · replace h := h.1 c6
    refine v_tableIn cx 71 d_X_wordOf_1 hwhich (by rw [c6]; decide) (by rw [c6]; decide) (by rw [c6]; rfl) (by decide) ?_
    refine v_ldcS cx zsr_18 d_X_wordOf_71 ?_
    exact rt _ _ _ _ _ _ (Nat.le_of_ble_eq_true rfl) (Nat.le_of_ble_eq_true rfl) d_X_wordOf_73 ⟨_, _, rfl, zsb_18, h⟩
  replace h := h.2
  by_cases c7 : which = 6
  · replace h := h.1 c7
    refine v_tableIn cx 74 d_X_wordOf_1 hwhich (by rw [c7]; decide) (by rw [c7]; decide) (by rw [c7]; rfl) (by decide) ?_
    refine v_ldcS cx zsr_19 d_X_wordOf_74 ?_
    exact rt _ _ _ _ _ _ (Nat.le_of_ble_eq_true rfl) (Nat.le_of_ble_eq_true rfl) d_X_wordOf_76 ⟨_, _, rfl, zsb_19, h⟩
  replace h := h.2
  by_cases c8 : which = 7
  · replace h := h.1 c8
    refine v_tableIn cx 77 d_X_wordOf_1 hwhich (by rw [c8]; decide) (by rw [c8]; decide) (by rw [c8]; rfl) (by decide) ?_
    refine v_ldcS cx zsr_20 d_X_wordOf_77 ?_
    exact rt _ _ _ _ _ _ (Nat.le_of_ble_eq_true rfl) (Nat.le_of_ble_eq_true rfl) d_X_wordOf_79 ⟨_, _, rfl, zsb_20, h⟩
  replace h := h.2
  by_cases c9 : which = 8
  · replace h := h.1 c9
    refine v_tableIn cx 80 d_X_wordOf_1 hwhich (by rw [c9]; decide) (by rw [c9]; decide) (by rw [c9]; rfl) (by decide) ?_
    refine v_ldcS cx zsr_21 d_X_wordOf_80 ?_
    exact rt _ _ _ _ _ _ (Nat.le_of_ble_eq_true rfl) (Nat.le_of_ble_eq_true rfl) d_X_wordOf_82 ⟨_, _, rfl, zsb_21, h⟩
  replace h := h.2
  by_cases c10 : which = 9
  · replace h := h.1 c10
    refine v_tableIn cx 83 d_X_wordOf_1 hwhich (by rw [c10]; decide) (by rw [c10]; decide) (by rw [c10]; rfl) (by decide) ?_
    refine v_ldcS cx zsr_22 d_X_wordOf_83 ?_
    exact rt _ _ _ _ _ _ (Nat.le_of_ble_eq_true rfl) (Nat.le_of_ble_eq_true rfl) d_X_wordOf_85 ⟨_, _, rfl, zsb_22, h⟩
  replace h := h.2
  replace h := h ⟨c1, c2, c3, c4, c5, c6, c7, c8, c9, c10⟩
  refine v_tableOut cx 86 d_X_wordOf_1 hwhich (zto_X_wordOf_1 c1 c2 c3 c4 c5 c6 c7 c8 c9 c10) (by decide) ?_
  refine v_ldcS cx zsr_23 d_X_wordOf_86 ?_
  exact rt _ _ _ _ _ _ (Nat.le_of_ble_eq_true rfl) (Nat.le_of_ble_eq_true rfl) d_X_wordOf_88 ⟨_, _, rfl, zsb_23, h⟩
def q_X_readClause (K : Int → zS → Prop) (σ : zS) : Prop :=
  q_X_readWord [119, 101, 116] (fun r2 σ1 =>
    (r2 = 0 →
      ∃ (I16 : Int → zS → Prop) (μ16 : Int → zS → Nat), (I16 0 σ1) ∧ ∀ (y4 : Int) (σ5 : zS), I16 y4 σ5 → zR y4 → 
      (11 ≤ y4 →
        K 0 σ5) ∧ (y4 < 11 →
        (0 ≤ y4 ∧ y4 < 11) ∧ (((σ5 8 y4) ≠ 0 →
            I16 (y4 + 1) σ5 ∧ zR (y4 + 1) ∧ μ16 (y4 + 1) σ5 < μ16 y4 σ5) ∧ ((σ5 8 y4) = 0 →
            q_X_wordOf y4 (fun w14 σ12 =>
              q_X_readWord w14 (fun r17 σ16 =>
                (r17 = 0 →
                  I16 (y4 + 1) σ16 ∧ zR (y4 + 1) ∧ μ16 (y4 + 1) σ16 < μ16 y4 σ5) ∧ (r17 ≠ 0 →
                  ∀ σ21 : zS, σ21 = zU σ16 8 y4 1 → zR (2 + y4) ∧ (q_X_readNumber (zSV 0 y4) (zSV 1 y4) (2 + y4) (fun r26 σ25 =>
                      K r26 σ25) σ21))) σ12) σ5)))) ∧ (r2 ≠ 0 →
      q_X_readWet (fun r28 σ27 =>
        K r28 σ27) σ1)) σ
abbrev rm_X_readClause : Room := { frames := 5, cells := 0, slots := 0, locals := 108 }
set_option maxRecDepth 20000 in
set_option maxHeartbeats 4000000 in
theorem s_X_readClause {Ω : zO} {ad : Nat → Nat} {K : Int → zS → Prop} {σ : zS}  (h : q_X_readClause K σ) : zMz Ω y_X_readClause (.code y_X_readClause c_X_readClause 2 (some .boolean)) rm_X_readClause zLy ad [.ref (ad 6)] σ K := by
  refine z_ofz (lv := [(0, .ref (ad 6))]) (by decide) rfl (Nat.le_of_ble_eq_true rfl) ?_
  intro Γ Q cx rt
  unfold q_X_readClause at h
  refine v_aload_n cx 0 d_X_readClause_0 rfl rfl ?_
  refine v_ldcS cx zsr_12 d_X_readClause_1 ?_
  refine v_callVz0 (st := []) cx (s_X_readWord zsb_12 h) yk_X_readWord lk_X_67 zl_6 rfl rfl rfl (Nat.le_of_ble_eq_true rfl) ⟨Nat.le_of_ble_eq_true rfl, Nat.le_of_ble_eq_true rfl⟩ ⟨rfl, rfl⟩ ⟨(Nat.le_of_ble_eq_true rfl), (Nat.le_of_ble_eq_true rfl)⟩ d_X_readClause_3 (fun r2 σ1 hr2 h => ?_)
  refine v_if_eq cx 14 d_X_readClause_6 (by decide) (zR_b hr2) (fun c3 => ?_) (fun c3 => ?_)
  · replace h := h.1 c3
    refine v_iconst cx d_X_readClause_14 ?_
    refine v_istore_n (lv' := [(0, .ref (ad 6)), (1, .int (zI 0))]) cx d_X_readClause_15 rfl (by decide) rfl rfl ?_
    obtain ⟨I16, μ16, h0, h⟩ := h
    have L16 : ∀ (N16 : Nat) (y4 : Int) (σ5 : zS), μ16 y4 σ5 < N16 → I16 y4 σ5 → zR y4 → zV Ω Γ rm_X_readClause 2 Q 0 0 zLy ad σ5 16 [(0, .ref (ad 6)), (1, .int (zI y4))] [] := by
      intro N16
      induction N16 with
      | zero => intro y4 σ5 hm; exact absurd hm (Nat.not_lt_zero _)
      | succ N16 ih16 =>
        intro y4 σ5 hmm16 hI hy4
        replace h := h y4 σ5 hI hy4
        refine v_iload_n cx 1 d_X_readClause_16 rfl rfl ?_
        refine v_bipush cx (by decide) d_X_readClause_17 ?_
        refine v_icmp_ge cx 73 d_X_readClause_19 (by decide) hy4 ⟨by decide, by decide⟩ (fun c6 => ?_) (fun c6 => ?_)
        · replace h := h.1 c6
          refine v_iconst cx d_X_readClause_73 ?_
          exact rt _ _ _ _ _ _ (Nat.le_of_ble_eq_true rfl) (Nat.le_of_ble_eq_true rfl) d_X_readClause_74 (Or.inl rfl) h
        · replace h := h.2 c6
          refine v_aload_n cx 0 d_X_readClause_22 rfl rfl ?_
          refine gf_X_21 cx d_X_readClause_23 ?_
          refine v_iload_n cx 1 d_X_readClause_26 rfl rfl ?_
          obtain ⟨hb7, h⟩ := h
          refine v_zald cx zl_8 (by decide) hb7.1 hb7.2 d_X_readClause_27 (fun hl8 => ?_)
          refine v_if_ne cx 67 d_X_readClause_28 (by decide) hl8 (fun c9 => ?_) (fun c9 => ?_)
          · replace h := h.1 c9
            refine v_iinc (lv' := [(0, .ref (ad 6)), (1, .int (zI (y4 + 1)))]) cx 1 d_X_readClause_67 rfl (by decide) rfl rfl ?_
            refine v_goto cx 16 d_X_readClause_70 (by decide) ?_
            obtain ⟨hI2, hz11, hm2⟩ := h
            exact ih16 _ _ (Nat.lt_of_lt_of_le hm2 (Nat.le_of_lt_succ hmm16)) hI2 hz11
          · replace h := h.2 c9
            refine v_aload_n cx 0 d_X_readClause_31 rfl rfl ?_
            refine v_iload_n cx 1 d_X_readClause_32 rfl rfl ?_
            refine v_callSr0 (st := [.ref (ad 6)]) cx (s_X_wordOf hy4 h) yk_X_wordOf lk_X_91 rfl rfl (Nat.le_of_ble_eq_true rfl) ⟨Nat.le_of_ble_eq_true rfl, Nat.le_of_ble_eq_true rfl⟩ ⟨rfl, rfl⟩ ⟨(Nat.le_of_ble_eq_true rfl), (Nat.le_of_ble_eq_true rfl)⟩ d_X_readClause_33 (fun ra σ12 h => ?_)
            obtain ⟨j13, w14, rfl, hj15, h⟩ := h
            refine v_callVz0 (st := []) cx (s_X_readWord hj15 h) yk_X_readWord lk_X_67 zl_6 rfl rfl rfl (Nat.le_of_ble_eq_true rfl) ⟨Nat.le_of_ble_eq_true rfl, Nat.le_of_ble_eq_true rfl⟩ ⟨rfl, rfl⟩ ⟨(Nat.le_of_ble_eq_true rfl), (Nat.le_of_ble_eq_true rfl)⟩ d_X_readClause_36 (fun r17 σ16 hr17 h => ?_)
            refine v_if_eq cx 67 d_X_readClause_39 (by decide) (zR_b hr17) (fun c18 => ?_) (fun c18 => ?_)
            · replace h := h.1 c18
              refine v_iinc (lv' := [(0, .ref (ad 6)), (1, .int (zI (y4 + 1)))]) cx 1 d_X_readClause_67 rfl (by decide) rfl rfl ?_
              refine v_goto cx 16 d_X_readClause_70 (by decide) ?_
              obtain ⟨hI2, hz20, hm2⟩ := h
              exact ih16 _ _ (Nat.lt_of_lt_of_le hm2 (Nat.le_of_lt_succ hmm16)) hI2 hz20
            · replace h := h.2 c18
              refine v_aload_n cx 0 d_X_readClause_42 rfl rfl ?_
              refine gf_X_21 cx d_X_readClause_43 ?_
              refine v_iload_n cx 1 d_X_readClause_46 rfl rfl ?_
              refine v_iconst cx d_X_readClause_47 ?_
              refine v_zast cx zl_8 (by decide) hb7.1 hb7.2 (Or.inr rfl) d_X_readClause_48 ?_
              refine v_ns (fun σ21 eσ21 => ?_)
              replace h := h σ21 eσ21
              refine v_aload_n cx 0 d_X_readClause_49 rfl rfl ?_
              refine gs_X_95 cx d_X_readClause_50 ?_
              refine v_iload_n cx 1 d_X_readClause_53 rfl rfl ?_
              refine v_sald cx 0 rfl rfl rfl (by decide) hb7.1 hb7.2 d_X_readClause_54 (fun hl22 => ?_)
              refine gs_X_98 cx d_X_readClause_55 ?_
              refine v_iload_n cx 1 d_X_readClause_58 rfl rfl ?_
              refine v_sald cx 1 rfl rfl rfl (by decide) hb7.1 hb7.2 d_X_readClause_59 (fun hl23 => ?_)
              refine v_iconst cx d_X_readClause_60 ?_
              refine v_iload_n cx 1 d_X_readClause_61 rfl rfl ?_
              refine v_iadd cx d_X_readClause_62 ?_
              obtain ⟨hr24, h⟩ := h
              refine v_callVz0 (st := []) cx (s_X_readNumber hl22 hl23 hr24 h) yk_X_readNumber lk_X_71 zl_6 rfl rfl rfl (Nat.le_of_ble_eq_true rfl) ⟨Nat.le_of_ble_eq_true rfl, Nat.le_of_ble_eq_true rfl⟩ ⟨rfl, rfl⟩ ⟨(Nat.le_of_ble_eq_true rfl), (Nat.le_of_ble_eq_true rfl)⟩ d_X_readClause_63 (fun r26 σ25 hr26 h => ?_)
              exact rt _ _ _ _ _ _ (Nat.le_of_ble_eq_true rfl) (Nat.le_of_ble_eq_true rfl) d_X_readClause_66 hr26 h
    exact L16 _ _ _ (Nat.lt_succ_self _) h0 ⟨by decide, by decide⟩
  · replace h := h.2 c3
    refine v_aload_n cx 0 d_X_readClause_9 rfl rfl ?_
    refine v_callVz0 (st := []) cx (s_X_readWet  h) yk_X_readWet lk_X_88 zl_6 rfl rfl rfl (Nat.le_of_ble_eq_true rfl) ⟨Nat.le_of_ble_eq_true rfl, Nat.le_of_ble_eq_true rfl⟩ ⟨rfl, rfl⟩ ⟨(Nat.le_of_ble_eq_true rfl), (Nat.le_of_ble_eq_true rfl)⟩ d_X_readClause_10 (fun r28 σ27 hr28 h => ?_)
    exact rt _ _ _ _ _ _ (Nat.le_of_ble_eq_true rfl) (Nat.le_of_ble_eq_true rfl) d_X_readClause_13 hr28 h
def q_X_readMark (K : Int → zS → Prop) (σ : zS) : Prop :=
  q_X_toNextThing (fun σ1 =>
    ((σ1 6 5) = (σ1 6 3) →
      K 0 σ1) ∧ ((σ1 6 5) ≠ (σ1 6 3) →
      q_T_byteAt (σ1 6 5) (fun r7 σ6 =>
        (r7 = 59 →
          zR ((σ6 6 5) + 1) ∧ (∀ σ11 : zS, σ11 = zU σ6 6 4 ((σ6 6 5) + 1) → K 1 σ11)) ∧ (r7 ≠ 59 →
          K 0 σ6)) σ1)) σ
abbrev rm_X_readMark : Room := { frames := 2, cells := 0, slots := 0, locals := 41 }
set_option maxRecDepth 20000 in
set_option maxHeartbeats 4000000 in
theorem s_X_readMark {Ω : zO} {ad : Nat → Nat} {K : Int → zS → Prop} {σ : zS}  (h : q_X_readMark K σ) : zMz Ω y_X_readMark (.code y_X_readMark c_X_readMark 1 (some .boolean)) rm_X_readMark zLy ad [.ref (ad 6)] σ K := by
  refine z_ofz (lv := [(0, .ref (ad 6))]) (by decide) rfl (Nat.le_of_ble_eq_true rfl) ?_
  intro Γ Q cx rt
  unfold q_X_readMark at h
  refine v_aload_n cx 0 d_X_readMark_0 rfl rfl ?_
  refine v_callVv0 (st := []) cx (s_X_toNextThing  h) yk_X_toNextThing lk_X_80 zl_6 rfl rfl rfl (Nat.le_of_ble_eq_true rfl) ⟨Nat.le_of_ble_eq_true rfl, Nat.le_of_ble_eq_true rfl⟩ ⟨rfl, rfl⟩ ⟨(Nat.le_of_ble_eq_true rfl), (Nat.le_of_ble_eq_true rfl)⟩ d_X_readMark_1 (fun σ1 h => ?_)
  refine v_aload_n cx 0 d_X_readMark_4 rfl rfl ?_
  refine gf_X_62 cx d_X_readMark_5 (fun hl2 => ?_)
  refine v_aload_n cx 0 d_X_readMark_8 rfl rfl ?_
  refine gf_X_31 cx d_X_readMark_9 (fun hl3 => ?_)
  refine v_icmp_eq cx 31 d_X_readMark_12 (by decide) hl2 hl3 (fun c4 => ?_) (fun c4 => ?_)
  · replace h := h.1 c4
    refine v_iconst cx d_X_readMark_31 ?_
    exact rt _ _ _ _ _ _ (Nat.le_of_ble_eq_true rfl) (Nat.le_of_ble_eq_true rfl) d_X_readMark_32 (Or.inl rfl) h
  · replace h := h.2 c4
    refine v_aload_n cx 0 d_X_readMark_15 rfl rfl ?_
    refine gf_X_9 cx d_X_readMark_16 ?_
    refine v_aload_n cx 0 d_X_readMark_19 rfl rfl ?_
    refine gf_X_62 cx d_X_readMark_20 (fun hl5 => ?_)
    refine v_callVi0 (st := []) cx (s_T_byteAt hl5 h) yk_T_byteAt lk_X_105 zl_1 rfl rfl rfl (Nat.le_of_ble_eq_true rfl) ⟨Nat.le_of_ble_eq_true rfl, Nat.le_of_ble_eq_true rfl⟩ ⟨rfl, rfl⟩ ⟨(Nat.le_of_ble_eq_true rfl), (Nat.le_of_ble_eq_true rfl)⟩ d_X_readMark_23 (fun r7 σ6 hr7 h => ?_)
    refine v_bipush cx (by decide) d_X_readMark_26 ?_
    refine v_icmp_eq cx 33 d_X_readMark_28 (by decide) hr7 ⟨by decide, by decide⟩ (fun c8 => ?_) (fun c8 => ?_)
    · replace h := h.1 c8
      refine v_aload_n cx 0 d_X_readMark_33 rfl rfl ?_
      refine v_aload_n cx 0 d_X_readMark_34 rfl rfl ?_
      refine gf_X_62 cx d_X_readMark_35 (fun hl9 => ?_)
      refine v_iconst cx d_X_readMark_38 ?_
      refine v_iadd cx d_X_readMark_39 ?_
      obtain ⟨hr10, h⟩ := h
      refine pf_X_34 cx hr10 d_X_readMark_40 ?_
      refine v_ns (fun σ11 eσ11 => ?_)
      replace h := h σ11 eσ11
      refine v_iconst cx d_X_readMark_43 ?_
      exact rt _ _ _ _ _ _ (Nat.le_of_ble_eq_true rfl) (Nat.le_of_ble_eq_true rfl) d_X_readMark_44 (Or.inr rfl) h
    · replace h := h.2 c8
      refine v_iconst cx d_X_readMark_31 ?_
      exact rt _ _ _ _ _ _ (Nat.le_of_ble_eq_true rfl) (Nat.le_of_ble_eq_true rfl) d_X_readMark_32 (Or.inl rfl) h
def q_X_readClauses (K : Int → zS → Prop) (σ : zS) : Prop :=
  ∃ (I2 : Int → zS → Prop) (μ2 : Int → zS → Nat), (I2 0 σ) ∧ ∀ (y1 : Int) (σ2 : zS), I2 y1 σ2 → zR y1 → 
  (14 < y1 →
    K 0 σ2) ∧ (y1 ≤ 14 →
    q_X_toNextThing (fun σ4 =>
      ((σ4 6 5) ≠ (σ4 6 3) →
        q_X_readMark (fun r9 σ8 =>
          (r9 ≠ 0 →
            q_X_toNextThing (fun σ11 =>
              (y1 = 14 →
                K 0 σ11) ∧ (y1 ≠ 14 →
                q_X_readClause (fun r14 σ13 =>
                  (r14 ≠ 0 →
                    I2 (y1 + 1) σ13 ∧ zR (y1 + 1) ∧ μ2 (y1 + 1) σ13 < μ2 y1 σ2) ∧ (r14 = 0 →
                    K 0 σ13)) σ11)) σ8) ∧ (r9 = 0 →
            K 0 σ8)) σ4) ∧ ((σ4 6 5) = (σ4 6 3) →
        K 1 σ4)) σ2)
abbrev rm_X_readClauses : Room := { frames := 6, cells := 0, slots := 0, locals := 129 }
set_option maxRecDepth 20000 in
set_option maxHeartbeats 4000000 in
theorem s_X_readClauses {Ω : zO} {ad : Nat → Nat} {K : Int → zS → Prop} {σ : zS}  (h : q_X_readClauses K σ) : zMz Ω y_X_readClauses (.code y_X_readClauses c_X_readClauses 2 (some .boolean)) rm_X_readClauses zLy ad [.ref (ad 6)] σ K := by
  refine z_ofz (lv := [(0, .ref (ad 6))]) (by decide) rfl (Nat.le_of_ble_eq_true rfl) ?_
  intro Γ Q cx rt
  unfold q_X_readClauses at h
  refine v_iconst cx d_X_readClauses_0 ?_
  refine v_istore_n (lv' := [(0, .ref (ad 6)), (1, .int (zI 0))]) cx d_X_readClauses_1 rfl (by decide) rfl rfl ?_
  obtain ⟨I2, μ2, h0, h⟩ := h
  have L2 : ∀ (N2 : Nat) (y1 : Int) (σ2 : zS), μ2 y1 σ2 < N2 → I2 y1 σ2 → zR y1 → zV Ω Γ rm_X_readClauses 2 Q 0 0 zLy ad σ2 2 [(0, .ref (ad 6)), (1, .int (zI y1))] [] := by
    intro N2
    induction N2 with
    | zero => intro y1 σ2 hm; exact absurd hm (Nat.not_lt_zero _)
    | succ N2 ih2 =>
      intro y1 σ2 hmm2 hI hy1
      replace h := h y1 σ2 hI hy1
      refine v_iload_n cx 1 d_X_readClauses_2 rfl rfl ?_
      refine v_bipush cx (by decide) d_X_readClauses_3 ?_
      refine v_icmp_gt cx 59 d_X_readClauses_5 (by decide) hy1 ⟨by decide, by decide⟩ (fun c3 => ?_) (fun c3 => ?_)
      · replace h := h.1 c3
        refine v_iconst cx d_X_readClauses_59 ?_
        exact rt _ _ _ _ _ _ (Nat.le_of_ble_eq_true rfl) (Nat.le_of_ble_eq_true rfl) d_X_readClauses_60 (Or.inl rfl) h
      · replace h := h.2 c3
        refine v_aload_n cx 0 d_X_readClauses_8 rfl rfl ?_
        refine v_callVv0 (st := []) cx (s_X_toNextThing  h) yk_X_toNextThing lk_X_80 zl_6 rfl rfl rfl (Nat.le_of_ble_eq_true rfl) ⟨Nat.le_of_ble_eq_true rfl, Nat.le_of_ble_eq_true rfl⟩ ⟨rfl, rfl⟩ ⟨(Nat.le_of_ble_eq_true rfl), (Nat.le_of_ble_eq_true rfl)⟩ d_X_readClauses_9 (fun σ4 h => ?_)
        refine v_aload_n cx 0 d_X_readClauses_12 rfl rfl ?_
        refine gf_X_62 cx d_X_readClauses_13 (fun hl5 => ?_)
        refine v_aload_n cx 0 d_X_readClauses_16 rfl rfl ?_
        refine gf_X_31 cx d_X_readClauses_17 (fun hl6 => ?_)
        refine v_icmp_ne cx 25 d_X_readClauses_20 (by decide) hl5 hl6 (fun c7 => ?_) (fun c7 => ?_)
        · replace h := h.1 c7
          refine v_aload_n cx 0 d_X_readClauses_25 rfl rfl ?_
          refine v_callVz0 (st := []) cx (s_X_readMark  h) yk_X_readMark lk_X_75 zl_6 rfl rfl rfl (Nat.le_of_ble_eq_true rfl) ⟨Nat.le_of_ble_eq_true rfl, Nat.le_of_ble_eq_true rfl⟩ ⟨rfl, rfl⟩ ⟨(Nat.le_of_ble_eq_true rfl), (Nat.le_of_ble_eq_true rfl)⟩ d_X_readClauses_26 (fun r9 σ8 hr9 h => ?_)
          refine v_if_ne cx 34 d_X_readClauses_29 (by decide) (zR_b hr9) (fun c10 => ?_) (fun c10 => ?_)
          · replace h := h.1 c10
            refine v_aload_n cx 0 d_X_readClauses_34 rfl rfl ?_
            refine v_callVv0 (st := []) cx (s_X_toNextThing  h) yk_X_toNextThing lk_X_80 zl_6 rfl rfl rfl (Nat.le_of_ble_eq_true rfl) ⟨Nat.le_of_ble_eq_true rfl, Nat.le_of_ble_eq_true rfl⟩ ⟨rfl, rfl⟩ ⟨(Nat.le_of_ble_eq_true rfl), (Nat.le_of_ble_eq_true rfl)⟩ d_X_readClauses_35 (fun σ11 h => ?_)
            refine v_iload_n cx 1 d_X_readClauses_38 rfl rfl ?_
            refine v_bipush cx (by decide) d_X_readClauses_39 ?_
            refine v_icmp_eq cx 51 d_X_readClauses_41 (by decide) hy1 ⟨by decide, by decide⟩ (fun c12 => ?_) (fun c12 => ?_)
            · replace h := h.1 c12
              refine v_iconst cx d_X_readClauses_51 ?_
              exact rt _ _ _ _ _ _ (Nat.le_of_ble_eq_true rfl) (Nat.le_of_ble_eq_true rfl) d_X_readClauses_52 (Or.inl rfl) h
            · replace h := h.2 c12
              refine v_aload_n cx 0 d_X_readClauses_44 rfl rfl ?_
              refine v_callVz0 (st := []) cx (s_X_readClause  h) yk_X_readClause lk_X_83 zl_6 rfl rfl rfl (Nat.le_of_ble_eq_true rfl) ⟨Nat.le_of_ble_eq_true rfl, Nat.le_of_ble_eq_true rfl⟩ ⟨rfl, rfl⟩ ⟨(Nat.le_of_ble_eq_true rfl), (Nat.le_of_ble_eq_true rfl)⟩ d_X_readClauses_45 (fun r14 σ13 hr14 h => ?_)
              refine v_if_ne cx 53 d_X_readClauses_48 (by decide) (zR_b hr14) (fun c15 => ?_) (fun c15 => ?_)
              · replace h := h.1 c15
                refine v_iinc (lv' := [(0, .ref (ad 6)), (1, .int (zI (y1 + 1)))]) cx 1 d_X_readClauses_53 rfl (by decide) rfl rfl ?_
                refine v_goto cx 2 d_X_readClauses_56 (by decide) ?_
                obtain ⟨hI2, hz17, hm2⟩ := h
                exact ih2 _ _ (Nat.lt_of_lt_of_le hm2 (Nat.le_of_lt_succ hmm2)) hI2 hz17
              · replace h := h.2 c15
                refine v_iconst cx d_X_readClauses_51 ?_
                exact rt _ _ _ _ _ _ (Nat.le_of_ble_eq_true rfl) (Nat.le_of_ble_eq_true rfl) d_X_readClauses_52 (Or.inl rfl) h
          · replace h := h.2 c10
            refine v_iconst cx d_X_readClauses_32 ?_
            exact rt _ _ _ _ _ _ (Nat.le_of_ble_eq_true rfl) (Nat.le_of_ble_eq_true rfl) d_X_readClauses_33 (Or.inl rfl) h
        · replace h := h.2 c7
          refine v_iconst cx d_X_readClauses_23 ?_
          exact rt _ _ _ _ _ _ (Nat.le_of_ble_eq_true rfl) (Nat.le_of_ble_eq_true rfl) d_X_readClauses_24 (Or.inr rfl) h
  exact L2 _ _ _ (Nat.lt_succ_self _) h0 ⟨by decide, by decide⟩
def q_X_readRows (K : Int → zS → Prop) (σ : zS) : Prop :=
  ∀ x2 : Int, x2 = σ 7 0 → ∀ x4 : Int, x4 = x2 * (σ 7 1) → ∃ (I21 : Int → Int → zS → Prop) (μ21 : Int → Int → zS → Nat), (I21 0 0 σ) ∧ ∀ (y5 y6 : Int) (σ7 : zS), I21 y5 y6 σ7 → zR y5 → zR y6 → 
  zR x4 ∧ ((x4 ≤ y6 →
      K 1 σ7) ∧ (y6 < x4 →
      ∃ J49 : zS → Prop, (∀ (σ10 : zS), J49 σ10 → 
        zR (13 + y6) ∧ (q_X_readNumber 0 99 (13 + y6) (fun r13 σ12 =>
            (r13 ≠ 0 →
              zR (y5 + 1) ∧ (((y5 + 1) ≠ x2 →
                  ∀ x17 : Int, x17 = y5 + 1 → I21 x17 (y6 + 1) σ12 ∧ zR (y6 + 1) ∧ μ21 x17 (y6 + 1) σ12 < μ21 y5 y6 σ7) ∧ ((y5 + 1) = x2 →
                  I21 0 (y6 + 1) σ12 ∧ zR (y6 + 1) ∧ μ21 0 (y6 + 1) σ12 < μ21 y5 y6 σ7))) ∧ (r13 = 0 →
              K 0 σ12)) σ10)) ∧
      ((y5 ≠ 0 →
          J49 σ7) ∧ (y5 = 0 →
          q_X_readMark (fun r24 σ23 =>
            (r24 = 0 →
              K 0 σ23) ∧ (r24 ≠ 0 →
              q_X_readWord [114, 111, 119] (fun r27 σ26 =>
                (r27 ≠ 0 →
                  J49 σ26) ∧ (r27 = 0 →
                  K 0 σ26)) σ23)) σ7))))
abbrev rm_X_readRows : Room := { frames := 5, cells := 0, slots := 0, locals := 108 }
set_option maxRecDepth 20000 in
set_option maxHeartbeats 4000000 in
theorem s_X_readRows {Ω : zO} {ad : Nat → Nat} {K : Int → zS → Prop} {σ : zS}  (h : q_X_readRows K σ) : zMz Ω y_X_readRows (.code y_X_readRows c_X_readRows 5 (some .boolean)) rm_X_readRows zLy ad [.ref (ad 6)] σ K := by
  refine z_ofz (lv := [(0, .ref (ad 6))]) (by decide) rfl (Nat.le_of_ble_eq_true rfl) ?_
  intro Γ Q cx rt
  unfold q_X_readRows at h
  refine v_aload_n cx 0 d_X_readRows_0 rfl rfl ?_
  refine gf_X_17 cx d_X_readRows_1 ?_
  refine v_iconst cx d_X_readRows_4 ?_
  refine v_iald cx zl_7 (by decide) (by decide) (by decide) d_X_readRows_5 (fun hl1 => ?_)
  refine v_nm (fun x2 ex2 => ?_)
  replace h := h x2 ex2
  have hx2 : zR x2 := by rw [ex2]; exact hl1
  refine v_istore_n (lv' := [(0, .ref (ad 6)), (1, .int (zI x2))]) cx d_X_readRows_6 rfl (by decide) rfl rfl ?_
  refine v_iload_n cx 1 d_X_readRows_7 rfl rfl ?_
  refine v_aload_n cx 0 d_X_readRows_8 rfl rfl ?_
  refine gf_X_17 cx d_X_readRows_9 ?_
  refine v_iconst cx d_X_readRows_12 ?_
  refine v_iald cx zl_7 (by decide) (by decide) (by decide) d_X_readRows_13 (fun hl3 => ?_)
  refine v_imul cx d_X_readRows_14 ?_
  refine v_nm (fun x4 ex4 => ?_)
  replace h := h x4 ex4
  refine v_istore_n (lv' := [(0, .ref (ad 6)), (1, .int (zI x2)), (2, .int (zI x4))]) cx d_X_readRows_15 rfl (by decide) rfl rfl ?_
  refine v_iconst cx d_X_readRows_16 ?_
  refine v_istore_n (lv' := [(0, .ref (ad 6)), (1, .int (zI x2)), (2, .int (zI x4)), (3, .int (zI 0))]) cx d_X_readRows_17 rfl (by decide) rfl rfl ?_
  refine v_iconst cx d_X_readRows_18 ?_
  refine v_istore (lv' := [(0, .ref (ad 6)), (1, .int (zI x2)), (2, .int (zI x4)), (3, .int (zI 0)), (4, .int (zI 0))]) cx d_X_readRows_19 (by decide) rfl rfl ?_
  obtain ⟨I21, μ21, h0, h⟩ := h
  have L21 : ∀ (N21 : Nat) (y5 y6 : Int) (σ7 : zS), μ21 y5 y6 σ7 < N21 → I21 y5 y6 σ7 → zR y5 → zR y6 → zV Ω Γ rm_X_readRows 5 Q 0 0 zLy ad σ7 21 [(0, .ref (ad 6)), (1, .int (zI x2)), (2, .int (zI x4)), (3, .int (zI y5)), (4, .int (zI y6))] [] := by
    intro N21
    induction N21 with
    | zero => intro y5 y6 σ7 hm; exact absurd hm (Nat.not_lt_zero _)
    | succ N21 ih21 =>
      intro y5 y6 σ7 hmm21 hI hy5 hy6
      replace h := h y5 y6 σ7 hI hy5 hy6
      refine v_iload cx 4 d_X_readRows_21 rfl ?_
      refine v_iload_n cx 2 d_X_readRows_23 rfl rfl ?_
      obtain ⟨hr8, h⟩ := h
      refine v_icmp_ge cx 87 d_X_readRows_24 (by decide) hy6 hr8 (fun c9 => ?_) (fun c9 => ?_)
      · replace h := h.1 c9
        refine v_iconst cx d_X_readRows_87 ?_
        exact rt _ _ _ _ _ _ (Nat.le_of_ble_eq_true rfl) (Nat.le_of_ble_eq_true rfl) d_X_readRows_88 (Or.inr rfl) h
      · replace h := h.2 c9
        refine v_iload_n cx 3 d_X_readRows_27 rfl rfl ?_
        obtain ⟨J49, hJ49, h⟩ := h
        have G49 : ∀ (σ10 : zS), J49 σ10 → zV Ω Γ rm_X_readRows 5 Q 0 0 zLy ad σ10 49 [(0, .ref (ad 6)), (1, .int (zI x2)), (2, .int (zI x4)), (3, .int (zI y5)), (4, .int (zI y6))] [] := by
          intro σ10 hJ 
          replace h := hJ49 σ10 hJ 
          refine v_aload_n cx 0 d_X_readRows_49 rfl rfl ?_
          refine v_iconst cx d_X_readRows_50 ?_
          refine v_bipush cx (by decide) d_X_readRows_51 ?_
          refine v_bipush cx (by decide) d_X_readRows_53 ?_
          refine v_iload cx 4 d_X_readRows_55 rfl ?_
          refine v_iadd cx d_X_readRows_57 ?_
          obtain ⟨hr11, h⟩ := h
          refine v_callVz0 (st := []) cx (s_X_readNumber ⟨by decide, by decide⟩ ⟨by decide, by decide⟩ hr11 h) yk_X_readNumber lk_X_71 zl_6 rfl rfl rfl (Nat.le_of_ble_eq_true rfl) ⟨Nat.le_of_ble_eq_true rfl, Nat.le_of_ble_eq_true rfl⟩ ⟨rfl, rfl⟩ ⟨(Nat.le_of_ble_eq_true rfl), (Nat.le_of_ble_eq_true rfl)⟩ d_X_readRows_58 (fun r13 σ12 hr13 h => ?_)
          refine v_if_ne cx 66 d_X_readRows_61 (by decide) (zR_b hr13) (fun c14 => ?_) (fun c14 => ?_)
          · replace h := h.1 c14
            refine v_iload_n cx 3 d_X_readRows_66 rfl rfl ?_
            refine v_iconst cx d_X_readRows_67 ?_
            refine v_iadd cx d_X_readRows_68 ?_
            refine v_iload_n cx 1 d_X_readRows_69 rfl rfl ?_
            obtain ⟨hr15, h⟩ := h
            refine v_icmp_ne cx 77 d_X_readRows_70 (by decide) hr15 hx2 (fun c16 => ?_) (fun c16 => ?_)
            · replace h := h.1 c16
              refine v_iload_n cx 3 d_X_readRows_77 rfl rfl ?_
              refine v_iconst cx d_X_readRows_78 ?_
              refine v_iadd cx d_X_readRows_79 ?_
              refine v_nm (fun x17 ex17 => ?_)
              replace h := h x17 ex17
              have hx17 : zR x17 := by rw [ex17]; exact hr15
              refine v_istore_n (lv' := [(0, .ref (ad 6)), (1, .int (zI x2)), (2, .int (zI x4)), (3, .int (zI x17)), (4, .int (zI y6))]) cx d_X_readRows_80 rfl (by decide) rfl rfl ?_
              refine v_iinc (lv' := [(0, .ref (ad 6)), (1, .int (zI x2)), (2, .int (zI x4)), (3, .int (zI x17)), (4, .int (zI (y6 + 1)))]) cx 4 d_X_readRows_81 rfl (by decide) rfl rfl ?_
              refine v_goto cx 21 d_X_readRows_84 (by decide) ?_
              obtain ⟨hI2, hz19, hm2⟩ := h
              exact ih21 _ _ _ (Nat.lt_of_lt_of_le hm2 (Nat.le_of_lt_succ hmm21)) hI2 hx17 hz19
            · replace h := h.2 c16
              refine v_iconst cx d_X_readRows_73 ?_
              refine v_goto cx 80 d_X_readRows_74 (by decide) ?_
              refine v_istore_n (lv' := [(0, .ref (ad 6)), (1, .int (zI x2)), (2, .int (zI x4)), (3, .int (zI 0)), (4, .int (zI y6))]) cx d_X_readRows_80 rfl (by decide) rfl rfl ?_
              refine v_iinc (lv' := [(0, .ref (ad 6)), (1, .int (zI x2)), (2, .int (zI x4)), (3, .int (zI 0)), (4, .int (zI (y6 + 1)))]) cx 4 d_X_readRows_81 rfl (by decide) rfl rfl ?_
              refine v_goto cx 21 d_X_readRows_84 (by decide) ?_
              obtain ⟨hI2, hz21, hm2⟩ := h
              exact ih21 _ _ _ (Nat.lt_of_lt_of_le hm2 (Nat.le_of_lt_succ hmm21)) hI2 ⟨by decide, by decide⟩ hz21
          · replace h := h.2 c14
            refine v_iconst cx d_X_readRows_64 ?_
            exact rt _ _ _ _ _ _ (Nat.le_of_ble_eq_true rfl) (Nat.le_of_ble_eq_true rfl) d_X_readRows_65 (Or.inl rfl) h
        refine v_if_ne cx 49 d_X_readRows_28 (by decide) hy5 (fun c22 => ?_) (fun c22 => ?_)
        · replace h := h.1 c22
          have hJ2 := h
          exact G49 _ hJ2 
        · replace h := h.2 c22
          refine v_aload_n cx 0 d_X_readRows_31 rfl rfl ?_
          refine v_callVz0 (st := []) cx (s_X_readMark  h) yk_X_readMark lk_X_75 zl_6 rfl rfl rfl (Nat.le_of_ble_eq_true rfl) ⟨Nat.le_of_ble_eq_true rfl, Nat.le_of_ble_eq_true rfl⟩ ⟨rfl, rfl⟩ ⟨(Nat.le_of_ble_eq_true rfl), (Nat.le_of_ble_eq_true rfl)⟩ d_X_readRows_32 (fun r24 σ23 hr24 h => ?_)
          refine v_if_eq cx 47 d_X_readRows_35 (by decide) (zR_b hr24) (fun c25 => ?_) (fun c25 => ?_)
          · replace h := h.1 c25
            refine v_iconst cx d_X_readRows_47 ?_
            exact rt _ _ _ _ _ _ (Nat.le_of_ble_eq_true rfl) (Nat.le_of_ble_eq_true rfl) d_X_readRows_48 (Or.inl rfl) h
          · replace h := h.2 c25
            refine v_aload_n cx 0 d_X_readRows_38 rfl rfl ?_
            refine v_ldcS cx zsr_11 d_X_readRows_39 ?_
            refine v_callVz0 (st := []) cx (s_X_readWord zsb_11 h) yk_X_readWord lk_X_67 zl_6 rfl rfl rfl (Nat.le_of_ble_eq_true rfl) ⟨Nat.le_of_ble_eq_true rfl, Nat.le_of_ble_eq_true rfl⟩ ⟨rfl, rfl⟩ ⟨(Nat.le_of_ble_eq_true rfl), (Nat.le_of_ble_eq_true rfl)⟩ d_X_readRows_41 (fun r27 σ26 hr27 h => ?_)
            refine v_if_ne cx 49 d_X_readRows_44 (by decide) (zR_b hr27) (fun c28 => ?_) (fun c28 => ?_)
            · replace h := h.1 c28
              have hJ2 := h
              exact G49 _ hJ2 
            · replace h := h.2 c28
              refine v_iconst cx d_X_readRows_47 ?_
              exact rt _ _ _ _ _ _ (Nat.le_of_ble_eq_true rfl) (Nat.le_of_ble_eq_true rfl) d_X_readRows_48 (Or.inl rfl) h
  exact L21 _ _ _ _ (Nat.lt_succ_self _) h0 ⟨by decide, by decide⟩ ⟨by decide, by decide⟩
def q_X_readSize (K : Int → zS → Prop) (σ : zS) : Prop :=
  q_X_readWord [108, 97, 110, 100] (fun r2 σ1 =>
    (r2 = 0 →
      K 0 σ1) ∧ (r2 ≠ 0 →
      q_X_readNumber 2 9 0 (fun r5 σ4 =>
        (r5 = 0 →
          K 0 σ4) ∧ (r5 ≠ 0 →
          q_X_readNumber 2 9 1 (fun r8 σ7 =>
            (r8 = 0 →
              K 0 σ7) ∧ (r8 ≠ 0 →
              K 1 σ7)) σ4)) σ1)) σ
abbrev rm_X_readSize : Room := { frames := 5, cells := 0, slots := 0, locals := 108 }
set_option maxRecDepth 20000 in
set_option maxHeartbeats 4000000 in
theorem s_X_readSize {Ω : zO} {ad : Nat → Nat} {K : Int → zS → Prop} {σ : zS}  (h : q_X_readSize K σ) : zMz Ω y_X_readSize (.code y_X_readSize c_X_readSize 1 (some .boolean)) rm_X_readSize zLy ad [.ref (ad 6)] σ K := by
  refine z_ofz (lv := [(0, .ref (ad 6))]) (by decide) rfl (Nat.le_of_ble_eq_true rfl) ?_
  intro Γ Q cx rt
  unfold q_X_readSize at h
  refine v_aload_n cx 0 d_X_readSize_0 rfl rfl ?_
  refine v_ldcS cx zsr_10 d_X_readSize_1 ?_
  refine v_callVz0 (st := []) cx (s_X_readWord zsb_10 h) yk_X_readWord lk_X_67 zl_6 rfl rfl rfl (Nat.le_of_ble_eq_true rfl) ⟨Nat.le_of_ble_eq_true rfl, Nat.le_of_ble_eq_true rfl⟩ ⟨rfl, rfl⟩ ⟨(Nat.le_of_ble_eq_true rfl), (Nat.le_of_ble_eq_true rfl)⟩ d_X_readSize_3 (fun r2 σ1 hr2 h => ?_)
  refine v_if_eq cx 35 d_X_readSize_6 (by decide) (zR_b hr2) (fun c3 => ?_) (fun c3 => ?_)
  · replace h := h.1 c3
    refine v_iconst cx d_X_readSize_35 ?_
    exact rt _ _ _ _ _ _ (Nat.le_of_ble_eq_true rfl) (Nat.le_of_ble_eq_true rfl) d_X_readSize_36 (Or.inl rfl) h
  · replace h := h.2 c3
    refine v_aload_n cx 0 d_X_readSize_9 rfl rfl ?_
    refine v_iconst cx d_X_readSize_10 ?_
    refine v_bipush cx (by decide) d_X_readSize_11 ?_
    refine v_iconst cx d_X_readSize_13 ?_
    refine v_callVz0 (st := []) cx (s_X_readNumber ⟨by decide, by decide⟩ ⟨by decide, by decide⟩ ⟨by decide, by decide⟩ h) yk_X_readNumber lk_X_71 zl_6 rfl rfl rfl (Nat.le_of_ble_eq_true rfl) ⟨Nat.le_of_ble_eq_true rfl, Nat.le_of_ble_eq_true rfl⟩ ⟨rfl, rfl⟩ ⟨(Nat.le_of_ble_eq_true rfl), (Nat.le_of_ble_eq_true rfl)⟩ d_X_readSize_14 (fun r5 σ4 hr5 h => ?_)
    refine v_if_eq cx 35 d_X_readSize_17 (by decide) (zR_b hr5) (fun c6 => ?_) (fun c6 => ?_)
    · replace h := h.1 c6
      refine v_iconst cx d_X_readSize_35 ?_
      exact rt _ _ _ _ _ _ (Nat.le_of_ble_eq_true rfl) (Nat.le_of_ble_eq_true rfl) d_X_readSize_36 (Or.inl rfl) h
    · replace h := h.2 c6
      refine v_aload_n cx 0 d_X_readSize_20 rfl rfl ?_
      refine v_iconst cx d_X_readSize_21 ?_
      refine v_bipush cx (by decide) d_X_readSize_22 ?_
      refine v_iconst cx d_X_readSize_24 ?_
      refine v_callVz0 (st := []) cx (s_X_readNumber ⟨by decide, by decide⟩ ⟨by decide, by decide⟩ ⟨by decide, by decide⟩ h) yk_X_readNumber lk_X_71 zl_6 rfl rfl rfl (Nat.le_of_ble_eq_true rfl) ⟨Nat.le_of_ble_eq_true rfl, Nat.le_of_ble_eq_true rfl⟩ ⟨rfl, rfl⟩ ⟨(Nat.le_of_ble_eq_true rfl), (Nat.le_of_ble_eq_true rfl)⟩ d_X_readSize_25 (fun r8 σ7 hr8 h => ?_)
      refine v_if_eq cx 35 d_X_readSize_28 (by decide) (zR_b hr8) (fun c9 => ?_) (fun c9 => ?_)
      · replace h := h.1 c9
        refine v_iconst cx d_X_readSize_35 ?_
        exact rt _ _ _ _ _ _ (Nat.le_of_ble_eq_true rfl) (Nat.le_of_ble_eq_true rfl) d_X_readSize_36 (Or.inl rfl) h
      · replace h := h.2 c9
        refine v_iconst cx d_X_readSize_31 ?_
        refine v_goto cx 36 d_X_readSize_32 (by decide) ?_
        exact rt _ _ _ _ _ _ (Nat.le_of_ble_eq_true rfl) (Nat.le_of_ble_eq_true rfl) d_X_readSize_36 (Or.inr rfl) h
def q_X_read (K : Int → zS → Prop) (σ : zS) : Prop :=
  q_T_size (fun r2 σ1 =>
    ∀ σ3 : zS, σ3 = zU σ1 6 3 r2 → ∀ σ4 : zS, σ4 = zU σ3 6 4 0 → q_J_fill2 7 499 0 (fun σ5 =>
      ∀ σ6 : zS, σ6 = zW σ5 7 (zCpy (zSV 2) (σ5 7) 0 2 11) → ∃ (I40 : Int → zS → Prop) (μ40 : Int → zS → Nat), (I40 0 σ6) ∧ ∀ (y7 : Int) (σ8 : zS), I40 y7 σ8 → zR y7 → 
      (11 ≤ y7 →
        q_X_readSize (fun r11 σ10 =>
          (r11 = 0 →
            K (σ10 6 5) σ10) ∧ (r11 ≠ 0 →
            q_X_readRows (fun r15 σ14 =>
              (r15 = 0 →
                K (σ14 6 5) σ14) ∧ (r15 ≠ 0 →
                q_X_readClauses (fun r19 σ18 =>
                  (r19 = 0 →
                    K (σ18 6 5) σ18) ∧ (r19 ≠ 0 →
                    K (-1) σ18)) σ14)) σ10)) σ8) ∧ (y7 < 11 →
        (0 ≤ y7 ∧ y7 < 11) ∧ (∀ σ23 : zS, σ23 = zU σ8 8 y7 0 → I40 (y7 + 1) σ23 ∧ zR (y7 + 1) ∧ μ40 (y7 + 1) σ23 < μ40 y7 σ8))) σ4) σ
abbrev rm_X_read : Room := { frames := 7, cells := 0, slots := 0, locals := 150 }
set_option maxRecDepth 20000 in
set_option maxHeartbeats 4000000 in
theorem s_X_read {Ω : zO} {ad : Nat → Nat} {K : Int → zS → Prop} {σ : zS}  (h : q_X_read K σ) : zMi Ω y_X_read (.code y_X_read c_X_read 2 (some .int)) rm_X_read zLy ad [.ref (ad 6)] σ K := by
  refine z_ofi (lv := [(0, .ref (ad 6))]) (by decide) rfl (Nat.le_of_ble_eq_true rfl) ?_
  intro Γ Q cx rt
  unfold q_X_read at h
  refine v_aload_n cx 0 d_X_read_0 rfl rfl ?_
  refine v_aload_n cx 0 d_X_read_1 rfl rfl ?_
  refine gf_X_9 cx d_X_read_2 ?_
  refine v_callVi0 (st := [.ref (ad 6)]) cx (s_T_size  h) yk_T_size lk_X_25 zl_1 rfl rfl rfl (Nat.le_of_ble_eq_true rfl) ⟨Nat.le_of_ble_eq_true rfl, Nat.le_of_ble_eq_true rfl⟩ ⟨rfl, rfl⟩ ⟨(Nat.le_of_ble_eq_true rfl), (Nat.le_of_ble_eq_true rfl)⟩ d_X_read_5 (fun r2 σ1 hr2 h => ?_)
  refine pf_X_31 cx hr2 d_X_read_8 ?_
  refine v_ns (fun σ3 eσ3 => ?_)
  replace h := h σ3 eσ3
  refine v_aload_n cx 0 d_X_read_11 rfl rfl ?_
  refine v_iconst cx d_X_read_12 ?_
  refine pf_X_34 cx ⟨by decide, by decide⟩ d_X_read_13 ?_
  refine v_ns (fun σ4 eσ4 => ?_)
  replace h := h σ4 eσ4
  refine v_aload_n cx 0 d_X_read_16 rfl rfl ?_
  refine gf_X_17 cx d_X_read_17 ?_
  refine v_iconst cx d_X_read_20 ?_
  refine v_callSv0 (st := []) cx (s_J_fill2 (o := 7) zl_7 (by decide) ⟨by decide, by decide⟩ h) yk_J_fill2 lk_X_37 rfl rfl (Nat.le_of_ble_eq_true rfl) ⟨Nat.le_of_ble_eq_true rfl, Nat.le_of_ble_eq_true rfl⟩ ⟨rfl, rfl⟩ ⟨Nat.le_of_ble_eq_true rfl, Nat.le_of_ble_eq_true rfl⟩ d_X_read_21 (fun σ5 h => ?_)
  refine gs_X_43 cx d_X_read_24 ?_
  refine v_iconst cx d_X_read_27 ?_
  refine v_aload_n cx 0 d_X_read_28 rfl rfl ?_
  refine gf_X_17 cx d_X_read_29 ?_
  refine v_iconst cx d_X_read_32 ?_
  refine v_bipush cx (by decide) d_X_read_33 ?_
  refine v_copyS cx 2 rfl rfl rfl zl_7 lk_X_46 zcopy.1 zcopy.2.1 zcopy.2.2 (by decide) (by decide) (by decide) (by decide) (by decide) (by decide) (by decide) (Nat.le_of_ble_eq_true rfl) (Nat.le_of_ble_eq_true rfl) d_X_read_35 ?_
  refine v_ns (fun σ6 eσ6 => ?_)
  replace h := h σ6 eσ6
  refine v_iconst cx d_X_read_38 ?_
  refine v_istore_n (lv' := [(0, .ref (ad 6)), (1, .int (zI 0))]) cx d_X_read_39 rfl (by decide) rfl rfl ?_
  obtain ⟨I40, μ40, h0, h⟩ := h
  have L40 : ∀ (N40 : Nat) (y7 : Int) (σ8 : zS), μ40 y7 σ8 < N40 → I40 y7 σ8 → zR y7 → zV Ω Γ rm_X_read 2 Q 0 0 zLy ad σ8 40 [(0, .ref (ad 6)), (1, .int (zI y7))] [] := by
    intro N40
    induction N40 with
    | zero => intro y7 σ8 hm; exact absurd hm (Nat.not_lt_zero _)
    | succ N40 ih40 =>
      intro y7 σ8 hmm40 hI hy7
      replace h := h y7 σ8 hI hy7
      refine v_iload_n cx 1 d_X_read_40 rfl rfl ?_
      refine v_bipush cx (by decide) d_X_read_41 ?_
      refine v_icmp_ge cx 59 d_X_read_43 (by decide) hy7 ⟨by decide, by decide⟩ (fun c9 => ?_) (fun c9 => ?_)
      · replace h := h.1 c9
        refine v_aload_n cx 0 d_X_read_59 rfl rfl ?_
        refine v_callVz0 (st := []) cx (s_X_readSize  h) yk_X_readSize lk_X_52 zl_6 rfl rfl rfl (Nat.le_of_ble_eq_true rfl) ⟨Nat.le_of_ble_eq_true rfl, Nat.le_of_ble_eq_true rfl⟩ ⟨rfl, rfl⟩ ⟨(Nat.le_of_ble_eq_true rfl), (Nat.le_of_ble_eq_true rfl)⟩ d_X_read_60 (fun r11 σ10 hr11 h => ?_)
        refine v_if_eq cx 84 d_X_read_63 (by decide) (zR_b hr11) (fun c12 => ?_) (fun c12 => ?_)
        · replace h := h.1 c12
          refine v_aload_n cx 0 d_X_read_84 rfl rfl ?_
          refine gf_X_62 cx d_X_read_85 (fun hl13 => ?_)
          exact rt _ _ _ _ _ _ (Nat.le_of_ble_eq_true rfl) (Nat.le_of_ble_eq_true rfl) d_X_read_88 hl13 h
        · replace h := h.2 c12
          refine v_aload_n cx 0 d_X_read_66 rfl rfl ?_
          refine v_callVz0 (st := []) cx (s_X_readRows  h) yk_X_readRows lk_X_56 zl_6 rfl rfl rfl (Nat.le_of_ble_eq_true rfl) ⟨Nat.le_of_ble_eq_true rfl, Nat.le_of_ble_eq_true rfl⟩ ⟨rfl, rfl⟩ ⟨(Nat.le_of_ble_eq_true rfl), (Nat.le_of_ble_eq_true rfl)⟩ d_X_read_67 (fun r15 σ14 hr15 h => ?_)
          refine v_if_eq cx 84 d_X_read_70 (by decide) (zR_b hr15) (fun c16 => ?_) (fun c16 => ?_)
          · replace h := h.1 c16
            refine v_aload_n cx 0 d_X_read_84 rfl rfl ?_
            refine gf_X_62 cx d_X_read_85 (fun hl17 => ?_)
            exact rt _ _ _ _ _ _ (Nat.le_of_ble_eq_true rfl) (Nat.le_of_ble_eq_true rfl) d_X_read_88 hl17 h
          · replace h := h.2 c16
            refine v_aload_n cx 0 d_X_read_73 rfl rfl ?_
            refine v_callVz0 (st := []) cx (s_X_readClauses  h) yk_X_readClauses lk_X_59 zl_6 rfl rfl rfl (Nat.le_of_ble_eq_true rfl) ⟨Nat.le_of_ble_eq_true rfl, Nat.le_of_ble_eq_true rfl⟩ ⟨rfl, rfl⟩ ⟨(Nat.le_of_ble_eq_true rfl), (Nat.le_of_ble_eq_true rfl)⟩ d_X_read_74 (fun r19 σ18 hr19 h => ?_)
            refine v_if_eq cx 84 d_X_read_77 (by decide) (zR_b hr19) (fun c20 => ?_) (fun c20 => ?_)
            · replace h := h.1 c20
              refine v_aload_n cx 0 d_X_read_84 rfl rfl ?_
              refine gf_X_62 cx d_X_read_85 (fun hl21 => ?_)
              exact rt _ _ _ _ _ _ (Nat.le_of_ble_eq_true rfl) (Nat.le_of_ble_eq_true rfl) d_X_read_88 hl21 h
            · replace h := h.2 c20
              refine v_iconst cx d_X_read_80 ?_
              refine v_goto cx 88 d_X_read_81 (by decide) ?_
              exact rt _ _ _ _ _ _ (Nat.le_of_ble_eq_true rfl) (Nat.le_of_ble_eq_true rfl) d_X_read_88 ⟨by decide, by decide⟩ h
      · replace h := h.2 c9
        refine v_aload_n cx 0 d_X_read_46 rfl rfl ?_
        refine gf_X_21 cx d_X_read_47 ?_
        refine v_iload_n cx 1 d_X_read_50 rfl rfl ?_
        refine v_iconst cx d_X_read_51 ?_
        obtain ⟨hb22, h⟩ := h
        refine v_zast cx zl_8 (by decide) hb22.1 hb22.2 (Or.inl rfl) d_X_read_52 ?_
        refine v_ns (fun σ23 eσ23 => ?_)
        replace h := h σ23 eσ23
        refine v_iinc (lv' := [(0, .ref (ad 6)), (1, .int (zI (y7 + 1)))]) cx 1 d_X_read_53 rfl (by decide) rfl rfl ?_
        refine v_goto cx 40 d_X_read_56 (by decide) ?_
        obtain ⟨hI2, hz25, hm2⟩ := h
        exact ih40 _ _ (Nat.lt_of_lt_of_le hm2 (Nat.le_of_lt_succ hmm40)) hI2 hz25
  exact L40 _ _ _ (Nat.lt_succ_self _) h0 ⟨by decide, by decide⟩
def q_R_feed (a : Int) (b : Int) (c : Int) (d : Int) (e : Int) (K : Int → zS → Prop) (σ : zS) : Prop :=
  q_T_hasRoom (fun r2 σ1 =>
    (r2 ≠ 0 →
      q_T_add a (fun σ4 =>
        q_T_add b (fun σ5 =>
          q_T_add c (fun σ6 =>
            q_T_add d (fun σ7 =>
              q_T_add e (fun σ8 =>
                q_T_size (fun r10 σ9 =>
                  K r10 σ9) σ8) σ7) σ6) σ5) σ4) σ1) ∧ (r2 = 0 →
      K (-1) σ1)) σ
abbrev rm_R_feed : Room := { frames := 1, cells := 0, slots := 0, locals := 22 }
set_option maxRecDepth 20000 in
set_option maxHeartbeats 4000000 in
theorem s_R_feed {Ω : zO} {ad : Nat → Nat} {a : Int} {b : Int} {c : Int} {d : Int} {e : Int} {K : Int → zS → Prop} {σ : zS} (ha : zR a) (hb : zR b) (hc : zR c) (hd : zR d) (he : zR e) (h : q_R_feed a b c d e K σ) : zMi Ω y_R_feed (.code y_R_feed c_R_feed 6 (some .int)) rm_R_feed zLy ad [.ref (ad 0), .int (zI a), .int (zI b), .int (zI c), .int (zI d), .int (zI e)] σ K := by
  refine z_ofi (lv := [(0, .ref (ad 0)), (1, .int (zI a)), (2, .int (zI b)), (3, .int (zI c)), (4, .int (zI d)), (5, .int (zI e))]) (by decide) rfl (Nat.le_of_ble_eq_true rfl) ?_
  intro Γ Q cx rt
  unfold q_R_feed at h
  refine v_aload_n cx 0 d_R_feed_0 rfl rfl ?_
  refine gf_R_12 cx d_R_feed_1 ?_
  refine v_callVz0 (st := []) cx (s_T_hasRoom  h) yk_T_hasRoom lk_R_94 zl_1 rfl rfl rfl (Nat.le_of_ble_eq_true rfl) ⟨Nat.le_of_ble_eq_true rfl, Nat.le_of_ble_eq_true rfl⟩ ⟨rfl, rfl⟩ ⟨(Nat.le_of_ble_eq_true rfl), (Nat.le_of_ble_eq_true rfl)⟩ d_R_feed_4 (fun r2 σ1 hr2 h => ?_)
  refine v_if_ne cx 12 d_R_feed_7 (by decide) (zR_b hr2) (fun c3 => ?_) (fun c3 => ?_)
  · replace h := h.1 c3
    refine v_aload_n cx 0 d_R_feed_12 rfl rfl ?_
    refine gf_R_12 cx d_R_feed_13 ?_
    refine v_iload_n cx 1 d_R_feed_16 rfl rfl ?_
    refine v_callVv0 (st := []) cx (s_T_add ha h) yk_T_add lk_R_98 zl_1 rfl rfl rfl (Nat.le_of_ble_eq_true rfl) ⟨Nat.le_of_ble_eq_true rfl, Nat.le_of_ble_eq_true rfl⟩ ⟨rfl, rfl⟩ ⟨(Nat.le_of_ble_eq_true rfl), (Nat.le_of_ble_eq_true rfl)⟩ d_R_feed_17 (fun σ4 h => ?_)
    refine v_aload_n cx 0 d_R_feed_20 rfl rfl ?_
    refine gf_R_12 cx d_R_feed_21 ?_
    refine v_iload_n cx 2 d_R_feed_24 rfl rfl ?_
    refine v_callVv0 (st := []) cx (s_T_add hb h) yk_T_add lk_R_98 zl_1 rfl rfl rfl (Nat.le_of_ble_eq_true rfl) ⟨Nat.le_of_ble_eq_true rfl, Nat.le_of_ble_eq_true rfl⟩ ⟨rfl, rfl⟩ ⟨(Nat.le_of_ble_eq_true rfl), (Nat.le_of_ble_eq_true rfl)⟩ d_R_feed_25 (fun σ5 h => ?_)
    refine v_aload_n cx 0 d_R_feed_28 rfl rfl ?_
    refine gf_R_12 cx d_R_feed_29 ?_
    refine v_iload_n cx 3 d_R_feed_32 rfl rfl ?_
    refine v_callVv0 (st := []) cx (s_T_add hc h) yk_T_add lk_R_98 zl_1 rfl rfl rfl (Nat.le_of_ble_eq_true rfl) ⟨Nat.le_of_ble_eq_true rfl, Nat.le_of_ble_eq_true rfl⟩ ⟨rfl, rfl⟩ ⟨(Nat.le_of_ble_eq_true rfl), (Nat.le_of_ble_eq_true rfl)⟩ d_R_feed_33 (fun σ6 h => ?_)
    refine v_aload_n cx 0 d_R_feed_36 rfl rfl ?_
    refine gf_R_12 cx d_R_feed_37 ?_
    refine v_iload cx 4 d_R_feed_40 rfl ?_
    refine v_callVv0 (st := []) cx (s_T_add hd h) yk_T_add lk_R_98 zl_1 rfl rfl rfl (Nat.le_of_ble_eq_true rfl) ⟨Nat.le_of_ble_eq_true rfl, Nat.le_of_ble_eq_true rfl⟩ ⟨rfl, rfl⟩ ⟨(Nat.le_of_ble_eq_true rfl), (Nat.le_of_ble_eq_true rfl)⟩ d_R_feed_42 (fun σ7 h => ?_)
    refine v_aload_n cx 0 d_R_feed_45 rfl rfl ?_
    refine gf_R_12 cx d_R_feed_46 ?_
    refine v_iload cx 5 d_R_feed_49 rfl ?_
    refine v_callVv0 (st := []) cx (s_T_add he h) yk_T_add lk_R_98 zl_1 rfl rfl rfl (Nat.le_of_ble_eq_true rfl) ⟨Nat.le_of_ble_eq_true rfl, Nat.le_of_ble_eq_true rfl⟩ ⟨rfl, rfl⟩ ⟨(Nat.le_of_ble_eq_true rfl), (Nat.le_of_ble_eq_true rfl)⟩ d_R_feed_51 (fun σ8 h => ?_)
    refine v_aload_n cx 0 d_R_feed_54 rfl rfl ?_
    refine gf_R_12 cx d_R_feed_55 ?_
    refine v_callVi0 (st := []) cx (s_T_size  h) yk_T_size lk_R_102 zl_1 rfl rfl rfl (Nat.le_of_ble_eq_true rfl) ⟨Nat.le_of_ble_eq_true rfl, Nat.le_of_ble_eq_true rfl⟩ ⟨rfl, rfl⟩ ⟨(Nat.le_of_ble_eq_true rfl), (Nat.le_of_ble_eq_true rfl)⟩ d_R_feed_58 (fun r10 σ9 hr10 h => ?_)
    exact rt _ _ _ _ _ _ (Nat.le_of_ble_eq_true rfl) (Nat.le_of_ble_eq_true rfl) d_R_feed_61 hr10 h
  · replace h := h.2 c3
    refine v_iconst cx d_R_feed_10 ?_
    exact rt _ _ _ _ _ _ (Nat.le_of_ble_eq_true rfl) (Nat.le_of_ble_eq_true rfl) d_R_feed_11 ⟨by decide, by decide⟩ h
def q_R_end (n_ : Int) (K : Int → zS → Prop) (σ : zS) : Prop :=
  q_T_cut n_ (fun r2 σ1 =>
    K r2 σ1) σ
abbrev rm_R_end : Room := { frames := 1, cells := 0, slots := 0, locals := 21 }
set_option maxRecDepth 20000 in
set_option maxHeartbeats 4000000 in
theorem s_R_end {Ω : zO} {ad : Nat → Nat} {n_ : Int} {K : Int → zS → Prop} {σ : zS} (hn_ : zR n_) (h : q_R_end n_ K σ) : zMz Ω y_R_end (.code y_R_end c_R_end 2 (some .boolean)) rm_R_end zLy ad [.ref (ad 0), .int (zI n_)] σ K := by
  refine z_ofz (lv := [(0, .ref (ad 0)), (1, .int (zI n_))]) (by decide) rfl (Nat.le_of_ble_eq_true rfl) ?_
  intro Γ Q cx rt
  unfold q_R_end at h
  refine v_aload_n cx 0 d_R_end_0 rfl rfl ?_
  refine gf_R_12 cx d_R_end_1 ?_
  refine v_iload_n cx 1 d_R_end_4 rfl rfl ?_
  refine v_callVz0 (st := []) cx (s_T_cut hn_ h) yk_T_cut lk_R_106 zl_1 rfl rfl rfl (Nat.le_of_ble_eq_true rfl) ⟨Nat.le_of_ble_eq_true rfl, Nat.le_of_ble_eq_true rfl⟩ ⟨rfl, rfl⟩ ⟨(Nat.le_of_ble_eq_true rfl), (Nat.le_of_ble_eq_true rfl)⟩ d_R_end_5 (fun r2 σ1 hr2 h => ?_)
  exact rt _ _ _ _ _ _ (Nat.le_of_ble_eq_true rfl) (Nat.le_of_ble_eq_true rfl) d_R_end_8 hr2 h
def q_R_land (K : Int → zS → Prop) (X : String → zS → Prop) (σ : zS) : Prop :=
  q_X_read (fun r2 σ1 =>
    ∀ σ3 : zS, σ3 = zU σ1 0 11 r2 → q_T_cut 0 (fun r5 σ4 =>
      ((σ4 0 11) = (-1) →
        q_X_told (fun σ8 =>
          q_L_take_7 0 (fun σ9 =>
            q_P_forget (fun σ10 =>
              q_L_places (fun r12 σ11 =>
                K r12 σ11) σ10) σ9) σ8) σ4) ∧ ((σ4 0 11) ≠ (-1) →
        X "java/lang/IllegalArgumentException" σ4)) σ3) σ
abbrev rm_R_land : Room := { frames := 8, cells := 1, slots := 6, locals := 171 }
set_option maxRecDepth 20000 in
set_option maxHeartbeats 4000000 in
theorem s_R_land {Ω : zO} {ad : Nat → Nat} {K : Int → zS → Prop} {X : String → zS → Prop} {σ : zS}  (h : q_R_land K X σ) : zXi Ω y_R_land (.code y_R_land c_R_land 1 (some .int)) rm_R_land zLy ad [.ref (ad 0)] σ K X := by
  refine z_ofXi (lv := [(0, .ref (ad 0))]) (by decide) rfl (Nat.le_of_ble_eq_true rfl) ?_
  intro Γ Q cx rt th out
  unfold q_R_land at h
  refine v_aload_n cx 0 d_R_land_0 rfl rfl ?_
  refine v_aload_n cx 0 d_R_land_1 rfl rfl ?_
  refine gf_R_28 cx d_R_land_2 ?_
  refine v_callVi0 (st := [.ref (ad 0)]) cx (s_X_read  h) yk_X_read lk_R_110 zl_6 rfl rfl rfl (Nat.le_of_ble_eq_true rfl) ⟨Nat.le_of_ble_eq_true rfl, Nat.le_of_ble_eq_true rfl⟩ ⟨rfl, rfl⟩ ⟨(Nat.le_of_ble_eq_true rfl), (Nat.le_of_ble_eq_true rfl)⟩ d_R_land_5 (fun r2 σ1 hr2 h => ?_)
  refine pf_R_90 cx hr2 d_R_land_8 ?_
  refine v_ns (fun σ3 eσ3 => ?_)
  replace h := h σ3 eσ3
  refine v_aload_n cx 0 d_R_land_11 rfl rfl ?_
  refine gf_R_12 cx d_R_land_12 ?_
  refine v_iconst cx d_R_land_15 ?_
  refine v_callVz0 (st := []) cx (s_T_cut ⟨by decide, by decide⟩ h) yk_T_cut lk_R_106 zl_1 rfl rfl rfl (Nat.le_of_ble_eq_true rfl) ⟨Nat.le_of_ble_eq_true rfl, Nat.le_of_ble_eq_true rfl⟩ ⟨rfl, rfl⟩ ⟨(Nat.le_of_ble_eq_true rfl), (Nat.le_of_ble_eq_true rfl)⟩ d_R_land_16 (fun r5 σ4 hr5 h => ?_)
  refine v_pop cx d_R_land_19 rfl ?_
  refine v_aload_n cx 0 d_R_land_20 rfl rfl ?_
  refine gf_R_90 cx d_R_land_21 (fun hl6 => ?_)
  refine v_iconst cx d_R_land_24 ?_
  refine v_icmp_eq cx 38 d_R_land_25 (by decide) hl6 ⟨by decide, by decide⟩ (fun c7 => ?_) (fun c7 => ?_)
  · replace h := h.1 c7
    refine v_aload_n cx 0 d_R_land_38 rfl rfl ?_
    refine gf_R_19 cx d_R_land_39 ?_
    refine v_aload_n cx 0 d_R_land_42 rfl rfl ?_
    refine gf_R_28 cx d_R_land_43 ?_
    refine v_callVr0 (st := [.ref (ad 3)]) cx (s_X_told  h) yk_X_told lk_R_120 zl_6 rfl rfl rfl (Nat.le_of_ble_eq_true rfl) ⟨Nat.le_of_ble_eq_true rfl, Nat.le_of_ble_eq_true rfl⟩ ⟨rfl, rfl⟩ ⟨(Nat.le_of_ble_eq_true rfl), (Nat.le_of_ble_eq_true rfl)⟩ d_R_land_46 (fun ra σ8 h => ?_)
    obtain ⟨rfl, h⟩ := h
    refine v_iconst cx d_R_land_49 ?_
    refine v_callVv0 (st := []) cx (s_L_take_7 ⟨by decide, by decide⟩ h) yk_L_take lk_R_124 zl_3 rfl rfl rfl (Nat.le_of_ble_eq_true rfl) ⟨Nat.le_of_ble_eq_true rfl, Nat.le_of_ble_eq_true rfl⟩ ⟨rfl, rfl⟩ ⟨(Nat.le_of_ble_eq_true rfl), (Nat.le_of_ble_eq_true rfl)⟩ d_R_land_50 (fun σ9 h => ?_)
    refine v_aload_n cx 0 d_R_land_53 rfl rfl ?_
    refine gf_R_35 cx d_R_land_54 ?_
    refine v_callVv0 (st := []) cx (s_P_forget  h) yk_P_forget lk_R_128 zl_9 rfl rfl rfl (Nat.le_of_ble_eq_true rfl) ⟨Nat.le_of_ble_eq_true rfl, Nat.le_of_ble_eq_true rfl⟩ ⟨rfl, rfl⟩ ⟨(Nat.le_of_ble_eq_true rfl), (Nat.le_of_ble_eq_true rfl)⟩ d_R_land_57 (fun σ10 h => ?_)
    refine v_aload_n cx 0 d_R_land_60 rfl rfl ?_
    refine gf_R_19 cx d_R_land_61 ?_
    refine v_callVi0 (st := []) cx (s_L_places  h) yk_L_places lk_R_131 zl_3 rfl rfl rfl (Nat.le_of_ble_eq_true rfl) ⟨Nat.le_of_ble_eq_true rfl, Nat.le_of_ble_eq_true rfl⟩ ⟨rfl, rfl⟩ ⟨(Nat.le_of_ble_eq_true rfl), (Nat.le_of_ble_eq_true rfl)⟩ d_R_land_64 (fun r12 σ11 hr12 h => ?_)
    exact rt _ _ _ _ _ _ (Nat.le_of_ble_eq_true rfl) (Nat.le_of_ble_eq_true rfl) d_R_land_67 hr12 h
  · replace h := h.2 c7
    exact th _ _ _ _ _ _ 113 115 117 24 _ _ _ (Or.inl ztw_0) zsr_24 d_R_land_28 d_R_land_31 (Or.inl ⟨d_R_land_32, d_R_land_34, d_R_land_37⟩) (Nat.le_of_ble_eq_true rfl) (Nat.le_of_ble_eq_true rfl) (Nat.le_of_ble_eq_true rfl) (Nat.le_of_ble_eq_true rfl) h
def q_R_fault (K : Int → zS → Prop) (σ : zS) : Prop :=
  K (σ 0 11) σ
abbrev rm_R_fault : Room := { frames := 0, cells := 0, slots := 0, locals := 0 }
set_option maxRecDepth 20000 in
set_option maxHeartbeats 4000000 in
theorem s_R_fault {Ω : zO} {ad : Nat → Nat} {K : Int → zS → Prop} {σ : zS}  (h : q_R_fault K σ) : zMi Ω y_R_fault (.code y_R_fault c_R_fault 1 (some .int)) rm_R_fault zLy ad [.ref (ad 0)] σ K := by
  refine z_ofi (lv := [(0, .ref (ad 0))]) (by decide) rfl (Nat.le_of_ble_eq_true rfl) ?_
  intro Γ Q cx rt
  unfold q_R_fault at h
  refine v_aload_n cx 0 d_R_fault_0 rfl rfl ?_
  refine gf_R_90 cx d_R_fault_1 (fun hl1 => ?_)
  exact rt _ _ _ _ _ _ (Nat.le_of_ble_eq_true rfl) (Nat.le_of_ble_eq_true rfl) d_R_fault_4 hl1 h
def q_R_needAnswer (what : Int) (answers : Int) (K : zS → Prop) (X : String → zS → Prop) (σ : zS) : Prop :=
  (what < 0 →
    X "java/util/NoSuchElementException" σ) ∧ (0 ≤ what →
    (what < answers →
      K σ) ∧ (answers ≤ what →
      X "java/util/NoSuchElementException" σ))
abbrev rm_R_needAnswer : Room := { frames := 6, cells := 1, slots := 6, locals := 100 }
set_option maxRecDepth 20000 in
set_option maxHeartbeats 4000000 in
theorem s_R_needAnswer {Ω : zO} {ad : Nat → Nat} {what : Int} {answers : Int} {K : zS → Prop} {X : String → zS → Prop} {σ : zS} (hwhat : zR what) (hanswers : zR answers) (h : q_R_needAnswer what answers K X σ) : zXv Ω y_R_needAnswer (.code y_R_needAnswer c_R_needAnswer 3 none) rm_R_needAnswer zLy ad [.ref (ad 0), .int (zI what), .int (zI answers)] σ K X := by
  refine z_ofXv (lv := [(0, .ref (ad 0)), (1, .int (zI what)), (2, .int (zI answers))]) (by decide) rfl (Nat.le_of_ble_eq_true rfl) ?_
  intro Γ Q cx rt th out
  unfold q_R_needAnswer at h
  refine v_iload_n cx 1 d_R_needAnswer_0 rfl rfl ?_
  refine v_if_lt cx 9 d_R_needAnswer_1 (by decide) hwhat (fun c1 => ?_) (fun c1 => ?_)
  · replace h := h.1 c1
    exact th _ _ _ _ _ _ 335 337 339 26 _ _ _ (Or.inr ⟨ztw_3, d_R_needAnswer_13, d_R_needAnswer_16, d_R_needAnswer_19⟩) zsr_26 d_R_needAnswer_9 d_R_needAnswer_12 (Or.inr ⟨d_R_needAnswer_13, d_R_needAnswer_16, d_R_needAnswer_19⟩) (Nat.le_of_ble_eq_true rfl) (Nat.le_of_ble_eq_true rfl) (Nat.le_of_ble_eq_true rfl) (Nat.le_of_ble_eq_true rfl) h
  · replace h := h.2 c1
    refine v_iload_n cx 1 d_R_needAnswer_4 rfl rfl ?_
    refine v_iload_n cx 2 d_R_needAnswer_5 rfl rfl ?_
    refine v_icmp_lt cx 20 d_R_needAnswer_6 (by decide) hwhat hanswers (fun c2 => ?_) (fun c2 => ?_)
    · replace h := h.1 c2
      exact rt _ _ _ _ _ (Nat.le_of_ble_eq_true rfl) (Nat.le_of_ble_eq_true rfl) d_R_needAnswer_20 h
    · replace h := h.2 c2
      exact th _ _ _ _ _ _ 335 337 339 26 _ _ _ (Or.inr ⟨ztw_3, d_R_needAnswer_13, d_R_needAnswer_16, d_R_needAnswer_19⟩) zsr_26 d_R_needAnswer_9 d_R_needAnswer_12 (Or.inr ⟨d_R_needAnswer_13, d_R_needAnswer_16, d_R_needAnswer_19⟩) (Nat.le_of_ble_eq_true rfl) (Nat.le_of_ble_eq_true rfl) (Nat.le_of_ble_eq_true rfl) (Nat.le_of_ble_eq_true rfl) h
def q_R_needPlace (place : Int) (K : zS → Prop) (X : String → zS → Prop) (σ : zS) : Prop :=
  (place < 0 →
    X "java/lang/IndexOutOfBoundsException" σ) ∧ (0 ≤ place →
    q_L_places (fun r3 σ2 =>
      (place < r3 →
        K σ2) ∧ (r3 ≤ place →
        X "java/lang/IndexOutOfBoundsException" σ2)) σ)
abbrev rm_R_needPlace : Room := { frames := 6, cells := 1, slots := 6, locals := 100 }
set_option maxRecDepth 20000 in
set_option maxHeartbeats 4000000 in
theorem s_R_needPlace {Ω : zO} {ad : Nat → Nat} {place : Int} {K : zS → Prop} {X : String → zS → Prop} {σ : zS} (hplace : zR place) (h : q_R_needPlace place K X σ) : zXv Ω y_R_needPlace (.code y_R_needPlace c_R_needPlace 2 none) rm_R_needPlace zLy ad [.ref (ad 0), .int (zI place)] σ K X := by
  refine z_ofXv (lv := [(0, .ref (ad 0)), (1, .int (zI place))]) (by decide) rfl (Nat.le_of_ble_eq_true rfl) ?_
  intro Γ Q cx rt th out
  unfold q_R_needPlace at h
  refine v_iload_n cx 1 d_R_needPlace_0 rfl rfl ?_
  refine v_if_lt cx 15 d_R_needPlace_1 (by decide) hplace (fun c1 => ?_) (fun c1 => ?_)
  · replace h := h.1 c1
    exact th _ _ _ _ _ _ 330 332 334 25 _ _ _ (Or.inl ztw_2) zsr_25 d_R_needPlace_15 d_R_needPlace_18 (Or.inr ⟨d_R_needPlace_19, d_R_needPlace_22, d_R_needPlace_25⟩) (Nat.le_of_ble_eq_true rfl) (Nat.le_of_ble_eq_true rfl) (Nat.le_of_ble_eq_true rfl) (Nat.le_of_ble_eq_true rfl) h
  · replace h := h.2 c1
    refine v_iload_n cx 1 d_R_needPlace_4 rfl rfl ?_
    refine v_aload_n cx 0 d_R_needPlace_5 rfl rfl ?_
    refine gf_R_19 cx d_R_needPlace_6 ?_
    refine v_callVi0 (st := [.int (zI place)]) cx (s_L_places  h) yk_L_places lk_R_131 zl_3 rfl rfl rfl (Nat.le_of_ble_eq_true rfl) ⟨Nat.le_of_ble_eq_true rfl, Nat.le_of_ble_eq_true rfl⟩ ⟨rfl, rfl⟩ ⟨(Nat.le_of_ble_eq_true rfl), (Nat.le_of_ble_eq_true rfl)⟩ d_R_needPlace_9 (fun r3 σ2 hr3 h => ?_)
    refine v_icmp_lt cx 26 d_R_needPlace_12 (by decide) hplace hr3 (fun c4 => ?_) (fun c4 => ?_)
    · replace h := h.1 c4
      exact rt _ _ _ _ _ (Nat.le_of_ble_eq_true rfl) (Nat.le_of_ble_eq_true rfl) d_R_needPlace_26 h
    · replace h := h.2 c4
      exact th _ _ _ _ _ _ 330 332 334 25 _ _ _ (Or.inl ztw_2) zsr_25 d_R_needPlace_15 d_R_needPlace_18 (Or.inr ⟨d_R_needPlace_19, d_R_needPlace_22, d_R_needPlace_25⟩) (Nat.le_of_ble_eq_true rfl) (Nat.le_of_ble_eq_true rfl) (Nat.le_of_ble_eq_true rfl) (Nat.le_of_ble_eq_true rfl) h
theorem zto_R_place_12 {a : Int} (h0 : a ≠ 0) (h1 : a ≠ 1) (h2 : a ≠ 2) : a < 0 ∨ 2 < a := by omega
def q_R_place (place : Int) (what : Int) (K : Int → zS → Prop) (X : String → zS → Prop) (σ : zS) : Prop :=
  q_R_needPlace place (fun σ1 =>
    q_R_needAnswer what 4 (fun σ2 =>
      (what = 0 →
        q_L_height place (fun r5 σ4 =>
          K r5 σ4) σ2) ∧ (what = 1 →
        q_L_isWet place (fun r8 σ7 =>
          (r8 = 0 →
            K 0 σ7) ∧ (r8 ≠ 0 →
            K 1 σ7)) σ2) ∧ (what = 2 →
        q_L_isFlat place (fun r12 σ11 =>
          (r12 = 0 →
            K 0 σ11) ∧ (r12 ≠ 0 →
            K 1 σ11)) σ2) ∧ (what ≠ 0 ∧ what ≠ 1 ∧ what ≠ 2 →
        q_L_stepBits place (fun r15 σ14 =>
          K r15 σ14) σ2)) X σ1) X σ
abbrev rm_R_place : Room := { frames := 7, cells := 2, slots := 12, locals := 122 }
set_option maxRecDepth 20000 in
set_option maxHeartbeats 4000000 in
theorem s_R_place {Ω : zO} {ad : Nat → Nat} {place : Int} {what : Int} {K : Int → zS → Prop} {X : String → zS → Prop} {σ : zS} (hplace : zR place) (hwhat : zR what) (h : q_R_place place what K X σ) : zXi Ω y_R_place (.code y_R_place c_R_place 3 (some .int)) rm_R_place zLy ad [.ref (ad 0), .int (zI place), .int (zI what)] σ K X := by
  refine z_ofXi (lv := [(0, .ref (ad 0)), (1, .int (zI place)), (2, .int (zI what))]) (by decide) rfl (Nat.le_of_ble_eq_true rfl) ?_
  intro Γ Q cx rt th out
  unfold q_R_place at h
  refine v_aload_n cx 0 d_R_place_0 rfl rfl ?_
  refine v_iload_n cx 1 d_R_place_1 rfl rfl ?_
  refine v_xcallv (st := []) cx (s_R_needPlace hplace h) yk_R_needPlace lk_R_134 zl_0 rfl rfl rfl (Nat.le_of_ble_eq_true rfl) ⟨Nat.le_of_ble_eq_true rfl, Nat.le_of_ble_eq_true rfl⟩ ⟨(Nat.le_of_ble_eq_true rfl), (Nat.le_of_ble_eq_true rfl)⟩ d_R_place_2 (fun σ1 h => ?_) (fun E σ1 hX => out _ _ _ _ _ _ (Nat.le_of_ble_eq_true rfl) (Nat.le_of_ble_eq_true rfl) hX)
  refine v_widen (k' := 1) (n' := 6) (Nat.le_of_ble_eq_true rfl) (Nat.le_of_ble_eq_true rfl) ?_
  refine v_aload_n cx 0 d_R_place_5 rfl rfl ?_
  refine v_iload_n cx 2 d_R_place_6 rfl rfl ?_
  refine v_iconst cx d_R_place_7 ?_
  refine v_xcallv (st := []) cx (s_R_needAnswer hwhat ⟨by decide, by decide⟩ h) yk_R_needAnswer lk_R_137 zl_0 rfl rfl rfl (Nat.le_of_ble_eq_true rfl) ⟨Nat.le_of_ble_eq_true rfl, Nat.le_of_ble_eq_true rfl⟩ ⟨(Nat.le_of_ble_eq_true rfl), (Nat.le_of_ble_eq_true rfl)⟩ d_R_place_8 (fun σ2 h => ?_) (fun E σ1 hX => out _ _ _ _ _ _ (Nat.le_of_ble_eq_true rfl) (Nat.le_of_ble_eq_true rfl) hX)
  refine v_widen (k' := 2) (n' := 12) (Nat.le_of_ble_eq_true rfl) (Nat.le_of_ble_eq_true rfl) ?_
  refine v_iload_n cx 2 d_R_place_11 rfl rfl ?_
  by_cases c3 : what = 0
  · replace h := h.1 c3
    refine v_tableIn cx 40 d_R_place_12 hwhat (by rw [c3]; decide) (by rw [c3]; decide) (by rw [c3]; rfl) (by decide) ?_
    refine v_aload_n cx 0 d_R_place_40 rfl rfl ?_
    refine gf_R_19 cx d_R_place_41 ?_
    refine v_iload_n cx 1 d_R_place_44 rfl rfl ?_
    refine v_callVi0 (st := []) cx (s_L_height hplace h) yk_L_height lk_R_141 zl_3 rfl rfl rfl (Nat.le_of_ble_eq_true rfl) ⟨Nat.le_of_ble_eq_true rfl, Nat.le_of_ble_eq_true rfl⟩ ⟨rfl, rfl⟩ ⟨(Nat.le_of_ble_eq_true rfl), (Nat.le_of_ble_eq_true rfl)⟩ d_R_place_45 (fun r5 σ4 hr5 h => ?_)
    exact rt _ _ _ _ _ _ (Nat.le_of_ble_eq_true rfl) (Nat.le_of_ble_eq_true rfl) d_R_place_48 hr5 h
  replace h := h.2
  by_cases c6 : what = 1
  · replace h := h.1 c6
    refine v_tableIn cx 49 d_R_place_12 hwhat (by rw [c6]; decide) (by rw [c6]; decide) (by rw [c6]; rfl) (by decide) ?_
    refine v_aload_n cx 0 d_R_place_49 rfl rfl ?_
    refine gf_R_19 cx d_R_place_50 ?_
    refine v_iload_n cx 1 d_R_place_53 rfl rfl ?_
    refine v_callVz0 (st := []) cx (s_L_isWet hplace h) yk_L_isWet lk_R_145 zl_3 rfl rfl rfl (Nat.le_of_ble_eq_true rfl) ⟨Nat.le_of_ble_eq_true rfl, Nat.le_of_ble_eq_true rfl⟩ ⟨rfl, rfl⟩ ⟨(Nat.le_of_ble_eq_true rfl), (Nat.le_of_ble_eq_true rfl)⟩ d_R_place_54 (fun r8 σ7 hr8 h => ?_)
    refine v_if_eq cx 64 d_R_place_57 (by decide) (zR_b hr8) (fun c9 => ?_) (fun c9 => ?_)
    · replace h := h.1 c9
      refine v_iconst cx d_R_place_64 ?_
      exact rt _ _ _ _ _ _ (Nat.le_of_ble_eq_true rfl) (Nat.le_of_ble_eq_true rfl) d_R_place_65 ⟨by decide, by decide⟩ h
    · replace h := h.2 c9
      refine v_iconst cx d_R_place_60 ?_
      refine v_goto cx 65 d_R_place_61 (by decide) ?_
      exact rt _ _ _ _ _ _ (Nat.le_of_ble_eq_true rfl) (Nat.le_of_ble_eq_true rfl) d_R_place_65 ⟨by decide, by decide⟩ h
  replace h := h.2
  by_cases c10 : what = 2
  · replace h := h.1 c10
    refine v_tableIn cx 66 d_R_place_12 hwhat (by rw [c10]; decide) (by rw [c10]; decide) (by rw [c10]; rfl) (by decide) ?_
    refine v_aload_n cx 0 d_R_place_66 rfl rfl ?_
    refine gf_R_19 cx d_R_place_67 ?_
    refine v_iload_n cx 1 d_R_place_70 rfl rfl ?_
    refine v_callVz0 (st := []) cx (s_L_isFlat hplace h) yk_L_isFlat lk_R_148 zl_3 rfl rfl rfl (Nat.le_of_ble_eq_true rfl) ⟨Nat.le_of_ble_eq_true rfl, Nat.le_of_ble_eq_true rfl⟩ ⟨rfl, rfl⟩ ⟨(Nat.le_of_ble_eq_true rfl), (Nat.le_of_ble_eq_true rfl)⟩ d_R_place_71 (fun r12 σ11 hr12 h => ?_)
    refine v_if_eq cx 81 d_R_place_74 (by decide) (zR_b hr12) (fun c13 => ?_) (fun c13 => ?_)
    · replace h := h.1 c13
      refine v_iconst cx d_R_place_81 ?_
      exact rt _ _ _ _ _ _ (Nat.le_of_ble_eq_true rfl) (Nat.le_of_ble_eq_true rfl) d_R_place_82 ⟨by decide, by decide⟩ h
    · replace h := h.2 c13
      refine v_iconst cx d_R_place_77 ?_
      refine v_goto cx 82 d_R_place_78 (by decide) ?_
      exact rt _ _ _ _ _ _ (Nat.le_of_ble_eq_true rfl) (Nat.le_of_ble_eq_true rfl) d_R_place_82 ⟨by decide, by decide⟩ h
  replace h := h.2
  replace h := h ⟨c3, c6, c10⟩
  refine v_tableOut cx 83 d_R_place_12 hwhat (zto_R_place_12 c3 c6 c10) (by decide) ?_
  refine v_aload_n cx 0 d_R_place_83 rfl rfl ?_
  refine gf_R_19 cx d_R_place_84 ?_
  refine v_iload_n cx 1 d_R_place_87 rfl rfl ?_
  refine v_callVi0 (st := []) cx (s_L_stepBits hplace h) yk_L_stepBits lk_R_151 zl_3 rfl rfl rfl (Nat.le_of_ble_eq_true rfl) ⟨Nat.le_of_ble_eq_true rfl, Nat.le_of_ble_eq_true rfl⟩ ⟨rfl, rfl⟩ ⟨(Nat.le_of_ble_eq_true rfl), (Nat.le_of_ble_eq_true rfl)⟩ d_R_place_88 (fun r15 σ14 hr15 h => ?_)
  exact rt _ _ _ _ _ _ (Nat.le_of_ble_eq_true rfl) (Nat.le_of_ble_eq_true rfl) d_R_place_91 hr15 h
def q_R_term (what : Int) (K : Int → zS → Prop) (X : String → zS → Prop) (σ : zS) : Prop :=
  q_R_needAnswer what 11 (fun σ1 =>
    q_L_value what (fun r3 σ2 =>
      K r3 σ2) σ1) X σ
abbrev rm_R_term : Room := { frames := 7, cells := 1, slots := 6, locals := 122 }
set_option maxRecDepth 20000 in
set_option maxHeartbeats 4000000 in
theorem s_R_term {Ω : zO} {ad : Nat → Nat} {what : Int} {K : Int → zS → Prop} {X : String → zS → Prop} {σ : zS} (hwhat : zR what) (h : q_R_term what K X σ) : zXi Ω y_R_term (.code y_R_term c_R_term 2 (some .int)) rm_R_term zLy ad [.ref (ad 0), .int (zI what)] σ K X := by
  refine z_ofXi (lv := [(0, .ref (ad 0)), (1, .int (zI what))]) (by decide) rfl (Nat.le_of_ble_eq_true rfl) ?_
  intro Γ Q cx rt th out
  unfold q_R_term at h
  refine v_aload_n cx 0 d_R_term_0 rfl rfl ?_
  refine v_iload_n cx 1 d_R_term_1 rfl rfl ?_
  refine v_bipush cx (by decide) d_R_term_2 ?_
  refine v_xcallv (st := []) cx (s_R_needAnswer hwhat ⟨by decide, by decide⟩ h) yk_R_needAnswer lk_R_137 zl_0 rfl rfl rfl (Nat.le_of_ble_eq_true rfl) ⟨Nat.le_of_ble_eq_true rfl, Nat.le_of_ble_eq_true rfl⟩ ⟨(Nat.le_of_ble_eq_true rfl), (Nat.le_of_ble_eq_true rfl)⟩ d_R_term_4 (fun σ1 h => ?_) (fun E σ1 hX => out _ _ _ _ _ _ (Nat.le_of_ble_eq_true rfl) (Nat.le_of_ble_eq_true rfl) hX)
  refine v_widen (k' := 1) (n' := 6) (Nat.le_of_ble_eq_true rfl) (Nat.le_of_ble_eq_true rfl) ?_
  refine v_aload_n cx 0 d_R_term_7 rfl rfl ?_
  refine gf_R_19 cx d_R_term_8 ?_
  refine v_iload_n cx 1 d_R_term_11 rfl rfl ?_
  refine v_callVi0 (st := []) cx (s_L_value hwhat h) yk_L_value lk_R_154 zl_3 rfl rfl rfl (Nat.le_of_ble_eq_true rfl) ⟨Nat.le_of_ble_eq_true rfl, Nat.le_of_ble_eq_true rfl⟩ ⟨rfl, rfl⟩ ⟨(Nat.le_of_ble_eq_true rfl), (Nat.le_of_ble_eq_true rfl)⟩ d_R_term_12 (fun r3 σ2 hr3 h => ?_)
  exact rt _ _ _ _ _ _ (Nat.le_of_ble_eq_true rfl) (Nat.le_of_ble_eq_true rfl) d_R_term_15 hr3 h
def q_R_needNumber (n_ : Int) (least : Int) (most : Int) (K : zS → Prop) (X : String → zS → Prop) (σ : zS) : Prop :=
  (n_ < least →
    X "java/lang/IllegalArgumentException" σ) ∧ (least ≤ n_ →
    (n_ ≤ most →
      K σ) ∧ (most < n_ →
      X "java/lang/IllegalArgumentException" σ))
abbrev rm_R_needNumber : Room := { frames := 6, cells := 1, slots := 6, locals := 100 }
set_option maxRecDepth 20000 in
set_option maxHeartbeats 4000000 in
theorem s_R_needNumber {Ω : zO} {ad : Nat → Nat} {n_ : Int} {least : Int} {most : Int} {K : zS → Prop} {X : String → zS → Prop} {σ : zS} (hn_ : zR n_) (hleast : zR least) (hmost : zR most) (h : q_R_needNumber n_ least most K X σ) : zXv Ω y_R_needNumber (.code y_R_needNumber c_R_needNumber 4 none) rm_R_needNumber zLy ad [.ref (ad 0), .int (zI n_), .int (zI least), .int (zI most)] σ K X := by
  refine z_ofXv (lv := [(0, .ref (ad 0)), (1, .int (zI n_)), (2, .int (zI least)), (3, .int (zI most))]) (by decide) rfl (Nat.le_of_ble_eq_true rfl) ?_
  intro Γ Q cx rt th out
  unfold q_R_needNumber at h
  refine v_iload_n cx 1 d_R_needNumber_0 rfl rfl ?_
  refine v_iload_n cx 2 d_R_needNumber_1 rfl rfl ?_
  refine v_icmp_lt cx 10 d_R_needNumber_2 (by decide) hn_ hleast (fun c1 => ?_) (fun c1 => ?_)
  · replace h := h.1 c1
    exact th _ _ _ _ _ _ 113 340 117 27 _ _ _ (Or.inl ztw_0) zsr_27 d_R_needNumber_10 d_R_needNumber_13 (Or.inr ⟨d_R_needNumber_14, d_R_needNumber_17, d_R_needNumber_20⟩) (Nat.le_of_ble_eq_true rfl) (Nat.le_of_ble_eq_true rfl) (Nat.le_of_ble_eq_true rfl) (Nat.le_of_ble_eq_true rfl) h
  · replace h := h.2 c1
    refine v_iload_n cx 1 d_R_needNumber_5 rfl rfl ?_
    refine v_iload_n cx 3 d_R_needNumber_6 rfl rfl ?_
    refine v_icmp_le cx 21 d_R_needNumber_7 (by decide) hn_ hmost (fun c2 => ?_) (fun c2 => ?_)
    · replace h := h.1 c2
      exact rt _ _ _ _ _ (Nat.le_of_ble_eq_true rfl) (Nat.le_of_ble_eq_true rfl) d_R_needNumber_21 h
    · replace h := h.2 c2
      exact th _ _ _ _ _ _ 113 340 117 27 _ _ _ (Or.inl ztw_0) zsr_27 d_R_needNumber_10 d_R_needNumber_13 (Or.inr ⟨d_R_needNumber_14, d_R_needNumber_17, d_R_needNumber_20⟩) (Nat.le_of_ble_eq_true rfl) (Nat.le_of_ble_eq_true rfl) (Nat.le_of_ble_eq_true rfl) (Nat.le_of_ble_eq_true rfl) h
def q_R_remember (K : zS → Prop) (σ : zS) : Prop :=
  q_P_remember (fun σ1 =>
    K σ1) σ
abbrev rm_R_remember : Room := { frames := 3, cells := 0, slots := 0, locals := 103 }
set_option maxRecDepth 20000 in
set_option maxHeartbeats 4000000 in
theorem s_R_remember {Ω : zO} {ad : Nat → Nat} {K : zS → Prop} {σ : zS}  (h : q_R_remember K σ) : zMv Ω y_R_remember (.code y_R_remember c_R_remember 1 none) rm_R_remember zLy ad [.ref (ad 0)] σ K := by
  refine z_ofv (lv := [(0, .ref (ad 0))]) (by decide) rfl (Nat.le_of_ble_eq_true rfl) ?_
  intro Γ Q cx rt
  unfold q_R_remember at h
  refine v_aload_n cx 0 d_R_remember_0 rfl rfl ?_
  refine gf_R_35 cx d_R_remember_1 ?_
  refine v_aload_n cx 0 d_R_remember_4 rfl rfl ?_
  refine gf_R_19 cx d_R_remember_5 ?_
  refine v_callVv0 (st := []) cx (s_P_remember  h) yk_P_remember lk_R_328 zl_9 rfl rfl rfl (Nat.le_of_ble_eq_true rfl) ⟨Nat.le_of_ble_eq_true rfl, Nat.le_of_ble_eq_true rfl⟩ ⟨rfl, rfl⟩ ⟨(Nat.le_of_ble_eq_true rfl), (Nat.le_of_ble_eq_true rfl)⟩ d_R_remember_8 (fun σ1 h => ?_)
  exact rt _ _ _ _ _ (Nat.le_of_ble_eq_true rfl) (Nat.le_of_ble_eq_true rfl) d_R_remember_11 h
def q_R_tune (what : Int) (n_ : Int) (K : Int → zS → Prop) (X : String → zS → Prop) (σ : zS) : Prop :=
  q_R_needAnswer what 11 (fun σ1 =>
    (0 ≤ what ∧ what < 11) ∧ (q_R_needNumber n_ (zSV 0 what) (zSV 1 what) (fun σ5 =>
        q_L_value what (fun r7 σ6 =>
          q_R_remember (fun σ8 =>
            q_L_setValue what n_ (fun σ9 =>
              K r7 σ9) σ8) σ6) σ5) X σ1)) X σ
abbrev rm_R_tune : Room := { frames := 7, cells := 2, slots := 12, locals := 123 }
set_option maxRecDepth 20000 in
set_option maxHeartbeats 4000000 in
theorem s_R_tune {Ω : zO} {ad : Nat → Nat} {what : Int} {n_ : Int} {K : Int → zS → Prop} {X : String → zS → Prop} {σ : zS} (hwhat : zR what) (hn_ : zR n_) (h : q_R_tune what n_ K X σ) : zXi Ω y_R_tune (.code y_R_tune c_R_tune 4 (some .int)) rm_R_tune zLy ad [.ref (ad 0), .int (zI what), .int (zI n_)] σ K X := by
  refine z_ofXi (lv := [(0, .ref (ad 0)), (1, .int (zI what)), (2, .int (zI n_))]) (by decide) rfl (Nat.le_of_ble_eq_true rfl) ?_
  intro Γ Q cx rt th out
  unfold q_R_tune at h
  refine v_aload_n cx 0 d_R_tune_0 rfl rfl ?_
  refine v_iload_n cx 1 d_R_tune_1 rfl rfl ?_
  refine v_bipush cx (by decide) d_R_tune_2 ?_
  refine v_xcallv (st := []) cx (s_R_needAnswer hwhat ⟨by decide, by decide⟩ h) yk_R_needAnswer lk_R_137 zl_0 rfl rfl rfl (Nat.le_of_ble_eq_true rfl) ⟨Nat.le_of_ble_eq_true rfl, Nat.le_of_ble_eq_true rfl⟩ ⟨(Nat.le_of_ble_eq_true rfl), (Nat.le_of_ble_eq_true rfl)⟩ d_R_tune_4 (fun σ1 h => ?_) (fun E σ1 hX => out _ _ _ _ _ _ (Nat.le_of_ble_eq_true rfl) (Nat.le_of_ble_eq_true rfl) hX)
  refine v_widen (k' := 1) (n' := 6) (Nat.le_of_ble_eq_true rfl) (Nat.le_of_ble_eq_true rfl) ?_
  refine v_aload_n cx 0 d_R_tune_7 rfl rfl ?_
  refine v_iload_n cx 2 d_R_tune_8 rfl rfl ?_
  refine gs_R_157 cx d_R_tune_9 ?_
  refine v_iload_n cx 1 d_R_tune_12 rfl rfl ?_
  obtain ⟨hb2, h⟩ := h
  refine v_sald cx 0 rfl rfl rfl (by decide) hb2.1 hb2.2 d_R_tune_13 (fun hl3 => ?_)
  refine gs_R_160 cx d_R_tune_14 ?_
  refine v_iload_n cx 1 d_R_tune_17 rfl rfl ?_
  refine v_sald cx 1 rfl rfl rfl (by decide) hb2.1 hb2.2 d_R_tune_18 (fun hl4 => ?_)
  refine v_xcallv (st := []) cx (s_R_needNumber hn_ hl3 hl4 h) yk_R_needNumber lk_R_163 zl_0 rfl rfl rfl (Nat.le_of_ble_eq_true rfl) ⟨Nat.le_of_ble_eq_true rfl, Nat.le_of_ble_eq_true rfl⟩ ⟨(Nat.le_of_ble_eq_true rfl), (Nat.le_of_ble_eq_true rfl)⟩ d_R_tune_19 (fun σ5 h => ?_) (fun E σ1 hX => out _ _ _ _ _ _ (Nat.le_of_ble_eq_true rfl) (Nat.le_of_ble_eq_true rfl) hX)
  refine v_widen (k' := 2) (n' := 12) (Nat.le_of_ble_eq_true rfl) (Nat.le_of_ble_eq_true rfl) ?_
  refine v_aload_n cx 0 d_R_tune_22 rfl rfl ?_
  refine gf_R_19 cx d_R_tune_23 ?_
  refine v_iload_n cx 1 d_R_tune_26 rfl rfl ?_
  refine v_callVi0 (st := []) cx (s_L_value hwhat h) yk_L_value lk_R_154 zl_3 rfl rfl rfl (Nat.le_of_ble_eq_true rfl) ⟨Nat.le_of_ble_eq_true rfl, Nat.le_of_ble_eq_true rfl⟩ ⟨rfl, rfl⟩ ⟨(Nat.le_of_ble_eq_true rfl), (Nat.le_of_ble_eq_true rfl)⟩ d_R_tune_27 (fun r7 σ6 hr7 h => ?_)
  refine v_istore_n (lv' := [(0, .ref (ad 0)), (1, .int (zI what)), (2, .int (zI n_)), (3, .int (zI r7))]) cx d_R_tune_30 rfl (by decide) rfl rfl ?_
  refine v_aload_n cx 0 d_R_tune_31 rfl rfl ?_
  refine v_callVv0 (st := []) cx (s_R_remember  h) yk_R_remember lk_R_167 zl_0 rfl rfl rfl (Nat.le_of_ble_eq_true rfl) ⟨Nat.le_of_ble_eq_true rfl, Nat.le_of_ble_eq_true rfl⟩ ⟨rfl, rfl⟩ ⟨(Nat.le_of_ble_eq_true rfl), (Nat.le_of_ble_eq_true rfl)⟩ d_R_tune_32 (fun σ8 h => ?_)
  refine v_aload_n cx 0 d_R_tune_35 rfl rfl ?_
  refine gf_R_19 cx d_R_tune_36 ?_
  refine v_iload_n cx 1 d_R_tune_39 rfl rfl ?_
  refine v_iload_n cx 2 d_R_tune_40 rfl rfl ?_
  refine v_callVv0 (st := []) cx (s_L_setValue hwhat hn_ h) yk_L_setValue lk_R_170 zl_3 rfl rfl rfl (Nat.le_of_ble_eq_true rfl) ⟨Nat.le_of_ble_eq_true rfl, Nat.le_of_ble_eq_true rfl⟩ ⟨rfl, rfl⟩ ⟨(Nat.le_of_ble_eq_true rfl), (Nat.le_of_ble_eq_true rfl)⟩ d_R_tune_41 (fun σ9 h => ?_)
  refine v_iload_n cx 3 d_R_tune_44 rfl rfl ?_
  exact rt _ _ _ _ _ _ (Nat.le_of_ble_eq_true rfl) (Nat.le_of_ble_eq_true rfl) d_R_tune_45 hr7 h
def q_R_raise (place : Int) (n_ : Int) (K : Int → zS → Prop) (X : String → zS → Prop) (σ : zS) : Prop :=
  q_R_needPlace place (fun σ1 =>
    q_R_needNumber n_ (-99) 99 (fun σ2 =>
      q_L_height place (fun r4 σ3 =>
        ∀ x5 : Int, x5 = r4 + n_ → zR x5 ∧ (q_R_needNumber x5 0 99 (fun σ7 =>
            q_R_remember (fun σ8 =>
              q_L_setHeight place x5 (fun σ9 =>
                K x5 σ9) σ8) σ7) X σ3)) σ2) X σ1) X σ
abbrev rm_R_raise : Room := { frames := 7, cells := 3, slots := 18, locals := 123 }
set_option maxRecDepth 20000 in
set_option maxHeartbeats 4000000 in
theorem s_R_raise {Ω : zO} {ad : Nat → Nat} {place : Int} {n_ : Int} {K : Int → zS → Prop} {X : String → zS → Prop} {σ : zS} (hplace : zR place) (hn_ : zR n_) (h : q_R_raise place n_ K X σ) : zXi Ω y_R_raise (.code y_R_raise c_R_raise 4 (some .int)) rm_R_raise zLy ad [.ref (ad 0), .int (zI place), .int (zI n_)] σ K X := by
  refine z_ofXi (lv := [(0, .ref (ad 0)), (1, .int (zI place)), (2, .int (zI n_))]) (by decide) rfl (Nat.le_of_ble_eq_true rfl) ?_
  intro Γ Q cx rt th out
  unfold q_R_raise at h
  refine v_aload_n cx 0 d_R_raise_0 rfl rfl ?_
  refine v_iload_n cx 1 d_R_raise_1 rfl rfl ?_
  refine v_xcallv (st := []) cx (s_R_needPlace hplace h) yk_R_needPlace lk_R_134 zl_0 rfl rfl rfl (Nat.le_of_ble_eq_true rfl) ⟨Nat.le_of_ble_eq_true rfl, Nat.le_of_ble_eq_true rfl⟩ ⟨(Nat.le_of_ble_eq_true rfl), (Nat.le_of_ble_eq_true rfl)⟩ d_R_raise_2 (fun σ1 h => ?_) (fun E σ1 hX => out _ _ _ _ _ _ (Nat.le_of_ble_eq_true rfl) (Nat.le_of_ble_eq_true rfl) hX)
  refine v_widen (k' := 1) (n' := 6) (Nat.le_of_ble_eq_true rfl) (Nat.le_of_ble_eq_true rfl) ?_
  refine v_aload_n cx 0 d_R_raise_5 rfl rfl ?_
  refine v_iload_n cx 2 d_R_raise_6 rfl rfl ?_
  refine v_bipush cx (by decide) d_R_raise_7 ?_
  refine v_bipush cx (by decide) d_R_raise_9 ?_
  refine v_xcallv (st := []) cx (s_R_needNumber hn_ ⟨by decide, by decide⟩ ⟨by decide, by decide⟩ h) yk_R_needNumber lk_R_163 zl_0 rfl rfl rfl (Nat.le_of_ble_eq_true rfl) ⟨Nat.le_of_ble_eq_true rfl, Nat.le_of_ble_eq_true rfl⟩ ⟨(Nat.le_of_ble_eq_true rfl), (Nat.le_of_ble_eq_true rfl)⟩ d_R_raise_11 (fun σ2 h => ?_) (fun E σ1 hX => out _ _ _ _ _ _ (Nat.le_of_ble_eq_true rfl) (Nat.le_of_ble_eq_true rfl) hX)
  refine v_widen (k' := 2) (n' := 12) (Nat.le_of_ble_eq_true rfl) (Nat.le_of_ble_eq_true rfl) ?_
  refine v_aload_n cx 0 d_R_raise_14 rfl rfl ?_
  refine gf_R_19 cx d_R_raise_15 ?_
  refine v_iload_n cx 1 d_R_raise_18 rfl rfl ?_
  refine v_callVi0 (st := []) cx (s_L_height hplace h) yk_L_height lk_R_141 zl_3 rfl rfl rfl (Nat.le_of_ble_eq_true rfl) ⟨Nat.le_of_ble_eq_true rfl, Nat.le_of_ble_eq_true rfl⟩ ⟨rfl, rfl⟩ ⟨(Nat.le_of_ble_eq_true rfl), (Nat.le_of_ble_eq_true rfl)⟩ d_R_raise_19 (fun r4 σ3 hr4 h => ?_)
  refine v_iload_n cx 2 d_R_raise_22 rfl rfl ?_
  refine v_iadd cx d_R_raise_23 ?_
  refine v_nm (fun x5 ex5 => ?_)
  replace h := h x5 ex5
  refine v_istore_n (lv' := [(0, .ref (ad 0)), (1, .int (zI place)), (2, .int (zI n_)), (3, .int (zI x5))]) cx d_R_raise_24 rfl (by decide) rfl rfl ?_
  refine v_aload_n cx 0 d_R_raise_25 rfl rfl ?_
  refine v_iload_n cx 3 d_R_raise_26 rfl rfl ?_
  refine v_iconst cx d_R_raise_27 ?_
  refine v_bipush cx (by decide) d_R_raise_28 ?_
  obtain ⟨hr6, h⟩ := h
  refine v_xcallv (st := []) cx (s_R_needNumber hr6 ⟨by decide, by decide⟩ ⟨by decide, by decide⟩ h) yk_R_needNumber lk_R_163 zl_0 rfl rfl rfl (Nat.le_of_ble_eq_true rfl) ⟨Nat.le_of_ble_eq_true rfl, Nat.le_of_ble_eq_true rfl⟩ ⟨(Nat.le_of_ble_eq_true rfl), (Nat.le_of_ble_eq_true rfl)⟩ d_R_raise_30 (fun σ7 h => ?_) (fun E σ1 hX => out _ _ _ _ _ _ (Nat.le_of_ble_eq_true rfl) (Nat.le_of_ble_eq_true rfl) hX)
  refine v_widen (k' := 3) (n' := 18) (Nat.le_of_ble_eq_true rfl) (Nat.le_of_ble_eq_true rfl) ?_
  refine v_aload_n cx 0 d_R_raise_33 rfl rfl ?_
  refine v_callVv0 (st := []) cx (s_R_remember  h) yk_R_remember lk_R_167 zl_0 rfl rfl rfl (Nat.le_of_ble_eq_true rfl) ⟨Nat.le_of_ble_eq_true rfl, Nat.le_of_ble_eq_true rfl⟩ ⟨rfl, rfl⟩ ⟨(Nat.le_of_ble_eq_true rfl), (Nat.le_of_ble_eq_true rfl)⟩ d_R_raise_34 (fun σ8 h => ?_)
  refine v_aload_n cx 0 d_R_raise_37 rfl rfl ?_
  refine gf_R_19 cx d_R_raise_38 ?_
  refine v_iload_n cx 1 d_R_raise_41 rfl rfl ?_
  refine v_iload_n cx 3 d_R_raise_42 rfl rfl ?_
  refine v_callVv0 (st := []) cx (s_L_setHeight hplace hr6 h) yk_L_setHeight lk_R_173 zl_3 rfl rfl rfl (Nat.le_of_ble_eq_true rfl) ⟨Nat.le_of_ble_eq_true rfl, Nat.le_of_ble_eq_true rfl⟩ ⟨rfl, rfl⟩ ⟨(Nat.le_of_ble_eq_true rfl), (Nat.le_of_ble_eq_true rfl)⟩ d_R_raise_43 (fun σ9 h => ?_)
  refine v_iload_n cx 3 d_R_raise_46 rfl rfl ?_
  exact rt _ _ _ _ _ _ (Nat.le_of_ble_eq_true rfl) (Nat.le_of_ble_eq_true rfl) d_R_raise_47 hr6 h
def q_R_flood (place : Int) (is_ : Int) (K : Int → zS → Prop) (X : String → zS → Prop) (σ : zS) : Prop :=
  q_R_needPlace place (fun σ1 =>
    q_L_isWet place (fun r3 σ2 =>
      ∃ J22 : Int → Prop, (∀ (w4 : Int), J22 w4 → zR w4 → 
        q_R_remember (fun σ5 =>
          q_L_setWet place is_ (fun σ6 =>
            (w4 = 0 ∨ w4 = 1) ∧ (K w4 σ6)) σ5) σ2) ∧
      ((r3 = is_ →
          J22 0) ∧ (r3 ≠ is_ →
          J22 1))) σ1) X σ
abbrev rm_R_flood : Room := { frames := 7, cells := 1, slots := 6, locals := 123 }
set_option maxRecDepth 20000 in
set_option maxHeartbeats 4000000 in
theorem s_R_flood {Ω : zO} {ad : Nat → Nat} {place : Int} {is_ : Int} {K : Int → zS → Prop} {X : String → zS → Prop} {σ : zS} (hplace : zR place) (his_ : is_ = 0 ∨ is_ = 1) (h : q_R_flood place is_ K X σ) : zXz Ω y_R_flood (.code y_R_flood c_R_flood 4 (some .boolean)) rm_R_flood zLy ad [.ref (ad 0), .int (zI place), .int (zI is_)] σ K X := by
  refine z_ofXz (lv := [(0, .ref (ad 0)), (1, .int (zI place)), (2, .int (zI is_))]) (by decide) rfl (Nat.le_of_ble_eq_true rfl) ?_
  intro Γ Q cx rt th out
  unfold q_R_flood at h
  refine v_aload_n cx 0 d_R_flood_0 rfl rfl ?_
  refine v_iload_n cx 1 d_R_flood_1 rfl rfl ?_
  refine v_xcallv (st := []) cx (s_R_needPlace hplace h) yk_R_needPlace lk_R_134 zl_0 rfl rfl rfl (Nat.le_of_ble_eq_true rfl) ⟨Nat.le_of_ble_eq_true rfl, Nat.le_of_ble_eq_true rfl⟩ ⟨(Nat.le_of_ble_eq_true rfl), (Nat.le_of_ble_eq_true rfl)⟩ d_R_flood_2 (fun σ1 h => ?_) (fun E σ1 hX => out _ _ _ _ _ _ (Nat.le_of_ble_eq_true rfl) (Nat.le_of_ble_eq_true rfl) hX)
  refine v_widen (k' := 1) (n' := 6) (Nat.le_of_ble_eq_true rfl) (Nat.le_of_ble_eq_true rfl) ?_
  refine v_aload_n cx 0 d_R_flood_5 rfl rfl ?_
  refine gf_R_19 cx d_R_flood_6 ?_
  refine v_iload_n cx 1 d_R_flood_9 rfl rfl ?_
  refine v_callVz0 (st := []) cx (s_L_isWet hplace h) yk_L_isWet lk_R_145 zl_3 rfl rfl rfl (Nat.le_of_ble_eq_true rfl) ⟨Nat.le_of_ble_eq_true rfl, Nat.le_of_ble_eq_true rfl⟩ ⟨rfl, rfl⟩ ⟨(Nat.le_of_ble_eq_true rfl), (Nat.le_of_ble_eq_true rfl)⟩ d_R_flood_10 (fun r3 σ2 hr3 h => ?_)
  refine v_iload_n cx 2 d_R_flood_13 rfl rfl ?_
  obtain ⟨J22, hJ22, h⟩ := h
  have G22 : ∀ (w4 : Int), J22 w4 → zR w4 → zV Ω Γ rm_R_flood 4 Q 1 6 zLy ad σ2 22 [(0, .ref (ad 0)), (1, .int (zI place)), (2, .int (zI is_))] [.int (zI w4)] := by
    intro w4 hJ hw4
    replace h := hJ22 w4 hJ hw4
    refine v_istore_n (lv' := [(0, .ref (ad 0)), (1, .int (zI place)), (2, .int (zI is_)), (3, .int (zI w4))]) cx d_R_flood_22 rfl (by decide) rfl rfl ?_
    refine v_aload_n cx 0 d_R_flood_23 rfl rfl ?_
    refine v_callVv0 (st := []) cx (s_R_remember  h) yk_R_remember lk_R_167 zl_0 rfl rfl rfl (Nat.le_of_ble_eq_true rfl) ⟨Nat.le_of_ble_eq_true rfl, Nat.le_of_ble_eq_true rfl⟩ ⟨rfl, rfl⟩ ⟨(Nat.le_of_ble_eq_true rfl), (Nat.le_of_ble_eq_true rfl)⟩ d_R_flood_24 (fun σ5 h => ?_)
    refine v_aload_n cx 0 d_R_flood_27 rfl rfl ?_
    refine gf_R_19 cx d_R_flood_28 ?_
    refine v_iload_n cx 1 d_R_flood_31 rfl rfl ?_
    refine v_iload_n cx 2 d_R_flood_32 rfl rfl ?_
    refine v_callVv0 (st := []) cx (s_L_setWet hplace his_ h) yk_L_setWet lk_R_176 zl_3 rfl rfl rfl (Nat.le_of_ble_eq_true rfl) ⟨Nat.le_of_ble_eq_true rfl, Nat.le_of_ble_eq_true rfl⟩ ⟨rfl, rfl⟩ ⟨(Nat.le_of_ble_eq_true rfl), (Nat.le_of_ble_eq_true rfl)⟩ d_R_flood_33 (fun σ6 h => ?_)
    refine v_iload_n cx 3 d_R_flood_36 rfl rfl ?_
    obtain ⟨hz7, h⟩ := h
    exact rt _ _ _ _ _ _ (Nat.le_of_ble_eq_true rfl) (Nat.le_of_ble_eq_true rfl) d_R_flood_37 hz7 h
  refine v_icmp_eq cx 21 d_R_flood_14 (by decide) (zR_b hr3) (zR_b his_) (fun c8 => ?_) (fun c8 => ?_)
  · replace h := h.1 c8
    refine v_iconst cx d_R_flood_21 ?_
    have hJ2 := h
    exact G22 _ hJ2 ⟨by decide, by decide⟩
  · replace h := h.2 c8
    refine v_iconst cx d_R_flood_17 ?_
    refine v_goto cx 22 d_R_flood_18 (by decide) ?_
    have hJ2 := h
    exact G22 _ hJ2 ⟨by decide, by decide⟩
def q_R_needPair (from_ : Int) (to_ : Int) (K : zS → Prop) (X : String → zS → Prop) (σ : zS) : Prop :=
  q_R_needPlace from_ (fun σ1 =>
    q_R_needPlace to_ (fun σ2 =>
      K σ2) X σ1) X σ
abbrev rm_R_needPair : Room := { frames := 7, cells := 2, slots := 12, locals := 121 }
set_option maxRecDepth 20000 in
set_option maxHeartbeats 4000000 in
theorem s_R_needPair {Ω : zO} {ad : Nat → Nat} {from_ : Int} {to_ : Int} {K : zS → Prop} {X : String → zS → Prop} {σ : zS} (hfrom_ : zR from_) (hto_ : zR to_) (h : q_R_needPair from_ to_ K X σ) : zXv Ω y_R_needPair (.code y_R_needPair c_R_needPair 3 none) rm_R_needPair zLy ad [.ref (ad 0), .int (zI from_), .int (zI to_)] σ K X := by
  refine z_ofXv (lv := [(0, .ref (ad 0)), (1, .int (zI from_)), (2, .int (zI to_))]) (by decide) rfl (Nat.le_of_ble_eq_true rfl) ?_
  intro Γ Q cx rt th out
  unfold q_R_needPair at h
  refine v_aload_n cx 0 d_R_needPair_0 rfl rfl ?_
  refine v_iload_n cx 1 d_R_needPair_1 rfl rfl ?_
  refine v_xcallv (st := []) cx (s_R_needPlace hfrom_ h) yk_R_needPlace lk_R_134 zl_0 rfl rfl rfl (Nat.le_of_ble_eq_true rfl) ⟨Nat.le_of_ble_eq_true rfl, Nat.le_of_ble_eq_true rfl⟩ ⟨(Nat.le_of_ble_eq_true rfl), (Nat.le_of_ble_eq_true rfl)⟩ d_R_needPair_2 (fun σ1 h => ?_) (fun E σ1 hX => out _ _ _ _ _ _ (Nat.le_of_ble_eq_true rfl) (Nat.le_of_ble_eq_true rfl) hX)
  refine v_widen (k' := 1) (n' := 6) (Nat.le_of_ble_eq_true rfl) (Nat.le_of_ble_eq_true rfl) ?_
  refine v_aload_n cx 0 d_R_needPair_5 rfl rfl ?_
  refine v_iload_n cx 2 d_R_needPair_6 rfl rfl ?_
  refine v_xcallv (st := []) cx (s_R_needPlace hto_ h) yk_R_needPlace lk_R_134 zl_0 rfl rfl rfl (Nat.le_of_ble_eq_true rfl) ⟨Nat.le_of_ble_eq_true rfl, Nat.le_of_ble_eq_true rfl⟩ ⟨(Nat.le_of_ble_eq_true rfl), (Nat.le_of_ble_eq_true rfl)⟩ d_R_needPair_7 (fun σ2 h => ?_) (fun E σ1 hX => out _ _ _ _ _ _ (Nat.le_of_ble_eq_true rfl) (Nat.le_of_ble_eq_true rfl) hX)
  refine v_widen (k' := 2) (n' := 12) (Nat.le_of_ble_eq_true rfl) (Nat.le_of_ble_eq_true rfl) ?_
  exact rt _ _ _ _ _ (Nat.le_of_ble_eq_true rfl) (Nat.le_of_ble_eq_true rfl) d_R_needPair_10 h
def q_R_needRoad (road : Int) (K : zS → Prop) (X : String → zS → Prop) (σ : zS) : Prop :=
  (road < 0 →
    X "java/lang/IndexOutOfBoundsException" σ) ∧ (0 ≤ road →
    (road < 4 →
      K σ) ∧ (4 ≤ road →
      X "java/lang/IndexOutOfBoundsException" σ))
abbrev rm_R_needRoad : Room := { frames := 6, cells := 1, slots := 6, locals := 100 }
set_option maxRecDepth 20000 in
set_option maxHeartbeats 4000000 in
theorem s_R_needRoad {Ω : zO} {ad : Nat → Nat} {road : Int} {K : zS → Prop} {X : String → zS → Prop} {σ : zS} (hroad : zR road) (h : q_R_needRoad road K X σ) : zXv Ω y_R_needRoad (.code y_R_needRoad c_R_needRoad 2 none) rm_R_needRoad zLy ad [.ref (ad 0), .int (zI road)] σ K X := by
  refine z_ofXv (lv := [(0, .ref (ad 0)), (1, .int (zI road))]) (by decide) rfl (Nat.le_of_ble_eq_true rfl) ?_
  intro Γ Q cx rt th out
  unfold q_R_needRoad at h
  refine v_iload_n cx 1 d_R_needRoad_0 rfl rfl ?_
  refine v_if_lt cx 9 d_R_needRoad_1 (by decide) hroad (fun c1 => ?_) (fun c1 => ?_)
  · replace h := h.1 c1
    exact th _ _ _ _ _ _ 330 198 334 28 _ _ _ (Or.inl ztw_2) zsr_28 d_R_needRoad_9 d_R_needRoad_12 (Or.inl ⟨d_R_needRoad_13, d_R_needRoad_15, d_R_needRoad_18⟩) (Nat.le_of_ble_eq_true rfl) (Nat.le_of_ble_eq_true rfl) (Nat.le_of_ble_eq_true rfl) (Nat.le_of_ble_eq_true rfl) h
  · replace h := h.2 c1
    refine v_iload_n cx 1 d_R_needRoad_4 rfl rfl ?_
    refine v_iconst cx d_R_needRoad_5 ?_
    refine v_icmp_lt cx 19 d_R_needRoad_6 (by decide) hroad ⟨by decide, by decide⟩ (fun c2 => ?_) (fun c2 => ?_)
    · replace h := h.1 c2
      exact rt _ _ _ _ _ (Nat.le_of_ble_eq_true rfl) (Nat.le_of_ble_eq_true rfl) d_R_needRoad_19 h
    · replace h := h.2 c2
      exact th _ _ _ _ _ _ 330 198 334 28 _ _ _ (Or.inl ztw_2) zsr_28 d_R_needRoad_9 d_R_needRoad_12 (Or.inl ⟨d_R_needRoad_13, d_R_needRoad_15, d_R_needRoad_18⟩) (Nat.le_of_ble_eq_true rfl) (Nat.le_of_ble_eq_true rfl) (Nat.le_of_ble_eq_true rfl) (Nat.le_of_ble_eq_true rfl) h
def q_R_needUnlike (one : Int) (other : Int) (K : zS → Prop) (X : String → zS → Prop) (σ : zS) : Prop :=
  (one ≠ other →
    K σ) ∧ (one = other →
    X "java/lang/IllegalArgumentException" σ)
abbrev rm_R_needUnlike : Room := { frames := 6, cells := 1, slots := 6, locals := 100 }
set_option maxRecDepth 20000 in
set_option maxHeartbeats 4000000 in
theorem s_R_needUnlike {Ω : zO} {ad : Nat → Nat} {one : Int} {other : Int} {K : zS → Prop} {X : String → zS → Prop} {σ : zS} (hone : zR one) (hother : zR other) (h : q_R_needUnlike one other K X σ) : zXv Ω y_R_needUnlike (.code y_R_needUnlike c_R_needUnlike 3 none) rm_R_needUnlike zLy ad [.ref (ad 0), .int (zI one), .int (zI other)] σ K X := by
  refine z_ofXv (lv := [(0, .ref (ad 0)), (1, .int (zI one)), (2, .int (zI other))]) (by decide) rfl (Nat.le_of_ble_eq_true rfl) ?_
  intro Γ Q cx rt th out
  unfold q_R_needUnlike at h
  refine v_iload_n cx 1 d_R_needUnlike_0 rfl rfl ?_
  refine v_iload_n cx 2 d_R_needUnlike_1 rfl rfl ?_
  refine v_icmp_ne cx 16 d_R_needUnlike_2 (by decide) hone hother (fun c1 => ?_) (fun c1 => ?_)
  · replace h := h.1 c1
    exact rt _ _ _ _ _ (Nat.le_of_ble_eq_true rfl) (Nat.le_of_ble_eq_true rfl) d_R_needUnlike_16 h
  · replace h := h.2 c1
    exact th _ _ _ _ _ _ 113 342 117 29 _ _ _ (Or.inl ztw_0) zsr_29 d_R_needUnlike_5 d_R_needUnlike_8 (Or.inr ⟨d_R_needUnlike_9, d_R_needUnlike_12, d_R_needUnlike_15⟩) (Nat.le_of_ble_eq_true rfl) (Nat.le_of_ble_eq_true rfl) (Nat.le_of_ble_eq_true rfl) (Nat.le_of_ble_eq_true rfl) h
def q_R_build (road : Int) (from_ : Int) (to_ : Int) (K : Int → zS → Prop) (X : String → zS → Prop) (σ : zS) : Prop :=
  q_R_needRoad road (fun σ1 =>
    q_R_needPair from_ to_ (fun σ2 =>
      q_R_needUnlike from_ to_ (fun σ3 =>
        q_W_find from_ to_ 0 (fun r5 σ4 =>
          (r5 = (-1) →
            X "java/lang/IllegalStateException" σ4) ∧ (r5 ≠ (-1) →
            q_W_pathSize (fun r8 σ7 =>
              (r8 ≤ 40 →
                q_R_remember (fun σ10 =>
                  q_W_path (fun σ11 =>
                    q_W_pathSize (fun r13 σ12 =>
                      q_L_setRoad road r13 (fun σ14 =>
                        K r5 σ14) σ12) σ11) σ10) σ7) ∧ (40 < r8 →
                X "java/lang/IllegalStateException" σ7)) σ4)) σ3) X σ2) X σ1) X σ
abbrev rm_R_build : Room := { frames := 8, cells := 5, slots := 30, locals := 143 }
set_option maxRecDepth 20000 in
set_option maxHeartbeats 4000000 in
theorem s_R_build {Ω : zO} {ad : Nat → Nat} {road : Int} {from_ : Int} {to_ : Int} {K : Int → zS → Prop} {X : String → zS → Prop} {σ : zS} (hroad : zR road) (hfrom_ : zR from_) (hto_ : zR to_) (h : q_R_build road from_ to_ K X σ) : zXi Ω y_R_build (.code y_R_build c_R_build 5 (some .int)) rm_R_build zLy ad [.ref (ad 0), .int (zI road), .int (zI from_), .int (zI to_)] σ K X := by
  refine z_ofXi (lv := [(0, .ref (ad 0)), (1, .int (zI road)), (2, .int (zI from_)), (3, .int (zI to_))]) (by decide) rfl (Nat.le_of_ble_eq_true rfl) ?_
  intro Γ Q cx rt th out
  unfold q_R_build at h
  refine v_aload_n cx 0 d_R_build_0 rfl rfl ?_
  refine v_iload_n cx 1 d_R_build_1 rfl rfl ?_
  refine v_xcallv (st := []) cx (s_R_needRoad hroad h) yk_R_needRoad lk_R_180 zl_0 rfl rfl rfl (Nat.le_of_ble_eq_true rfl) ⟨Nat.le_of_ble_eq_true rfl, Nat.le_of_ble_eq_true rfl⟩ ⟨(Nat.le_of_ble_eq_true rfl), (Nat.le_of_ble_eq_true rfl)⟩ d_R_build_2 (fun σ1 h => ?_) (fun E σ1 hX => out _ _ _ _ _ _ (Nat.le_of_ble_eq_true rfl) (Nat.le_of_ble_eq_true rfl) hX)
  refine v_widen (k' := 1) (n' := 6) (Nat.le_of_ble_eq_true rfl) (Nat.le_of_ble_eq_true rfl) ?_
  refine v_aload_n cx 0 d_R_build_5 rfl rfl ?_
  refine v_iload_n cx 2 d_R_build_6 rfl rfl ?_
  refine v_iload_n cx 3 d_R_build_7 rfl rfl ?_
  refine v_xcallv (st := []) cx (s_R_needPair hfrom_ hto_ h) yk_R_needPair lk_R_183 zl_0 rfl rfl rfl (Nat.le_of_ble_eq_true rfl) ⟨Nat.le_of_ble_eq_true rfl, Nat.le_of_ble_eq_true rfl⟩ ⟨(Nat.le_of_ble_eq_true rfl), (Nat.le_of_ble_eq_true rfl)⟩ d_R_build_8 (fun σ2 h => ?_) (fun E σ1 hX => out _ _ _ _ _ _ (Nat.le_of_ble_eq_true rfl) (Nat.le_of_ble_eq_true rfl) hX)
  refine v_widen (k' := 3) (n' := 18) (Nat.le_of_ble_eq_true rfl) (Nat.le_of_ble_eq_true rfl) ?_
  refine v_aload_n cx 0 d_R_build_11 rfl rfl ?_
  refine v_iload_n cx 2 d_R_build_12 rfl rfl ?_
  refine v_iload_n cx 3 d_R_build_13 rfl rfl ?_
  refine v_xcallv (st := []) cx (s_R_needUnlike hfrom_ hto_ h) yk_R_needUnlike lk_R_186 zl_0 rfl rfl rfl (Nat.le_of_ble_eq_true rfl) ⟨Nat.le_of_ble_eq_true rfl, Nat.le_of_ble_eq_true rfl⟩ ⟨(Nat.le_of_ble_eq_true rfl), (Nat.le_of_ble_eq_true rfl)⟩ d_R_build_14 (fun σ3 h => ?_) (fun E σ1 hX => out _ _ _ _ _ _ (Nat.le_of_ble_eq_true rfl) (Nat.le_of_ble_eq_true rfl) hX)
  refine v_widen (k' := 4) (n' := 24) (Nat.le_of_ble_eq_true rfl) (Nat.le_of_ble_eq_true rfl) ?_
  refine v_aload_n cx 0 d_R_build_17 rfl rfl ?_
  refine gf_R_53 cx d_R_build_18 ?_
  refine v_iload_n cx 2 d_R_build_21 rfl rfl ?_
  refine v_iload_n cx 3 d_R_build_22 rfl rfl ?_
  refine v_iconst cx d_R_build_23 ?_
  refine v_callVi0 (st := []) cx (s_W_find hfrom_ hto_ ⟨by decide, by decide⟩ h) yk_W_find lk_R_189 zl_15 rfl rfl rfl (Nat.le_of_ble_eq_true rfl) ⟨Nat.le_of_ble_eq_true rfl, Nat.le_of_ble_eq_true rfl⟩ ⟨rfl, rfl⟩ ⟨(Nat.le_of_ble_eq_true rfl), (Nat.le_of_ble_eq_true rfl)⟩ d_R_build_24 (fun r5 σ4 hr5 h => ?_)
  refine v_istore (lv' := [(0, .ref (ad 0)), (1, .int (zI road)), (2, .int (zI from_)), (3, .int (zI to_)), (4, .int (zI r5))]) cx d_R_build_27 (by decide) rfl rfl ?_
  refine v_iload cx 4 d_R_build_29 rfl ?_
  refine v_iconst cx d_R_build_31 ?_
  refine v_icmp_eq cx 47 d_R_build_32 (by decide) hr5 ⟨by decide, by decide⟩ (fun c6 => ?_) (fun c6 => ?_)
  · replace h := h.1 c6
    exact th _ _ _ _ _ _ 196 198 200 28 _ _ _ (Or.inl ztw_1) zsr_28 d_R_build_47 d_R_build_50 (Or.inl ⟨d_R_build_51, d_R_build_53, d_R_build_56⟩) (Nat.le_of_ble_eq_true rfl) (Nat.le_of_ble_eq_true rfl) (Nat.le_of_ble_eq_true rfl) (Nat.le_of_ble_eq_true rfl) h
  · replace h := h.2 c6
    refine v_aload_n cx 0 d_R_build_35 rfl rfl ?_
    refine gf_R_53 cx d_R_build_36 ?_
    refine v_callVi0 (st := []) cx (s_W_pathSize  h) yk_W_pathSize lk_R_193 zl_15 rfl rfl rfl (Nat.le_of_ble_eq_true rfl) ⟨Nat.le_of_ble_eq_true rfl, Nat.le_of_ble_eq_true rfl⟩ ⟨rfl, rfl⟩ ⟨(Nat.le_of_ble_eq_true rfl), (Nat.le_of_ble_eq_true rfl)⟩ d_R_build_39 (fun r8 σ7 hr8 h => ?_)
    refine v_bipush cx (by decide) d_R_build_42 ?_
    refine v_icmp_le cx 57 d_R_build_44 (by decide) hr8 ⟨by decide, by decide⟩ (fun c9 => ?_) (fun c9 => ?_)
    · replace h := h.1 c9
      refine v_aload_n cx 0 d_R_build_57 rfl rfl ?_
      refine v_callVv0 (st := []) cx (s_R_remember  h) yk_R_remember lk_R_167 zl_0 rfl rfl rfl (Nat.le_of_ble_eq_true rfl) ⟨Nat.le_of_ble_eq_true rfl, Nat.le_of_ble_eq_true rfl⟩ ⟨rfl, rfl⟩ ⟨(Nat.le_of_ble_eq_true rfl), (Nat.le_of_ble_eq_true rfl)⟩ d_R_build_58 (fun σ10 h => ?_)
      refine v_aload_n cx 0 d_R_build_61 rfl rfl ?_
      refine gf_R_19 cx d_R_build_62 ?_
      refine v_iload_n cx 1 d_R_build_65 rfl rfl ?_
      refine v_aload_n cx 0 d_R_build_66 rfl rfl ?_
      refine gf_R_53 cx d_R_build_67 ?_
      refine v_callVr0 (st := [.int (zI road), .ref (ad 3)]) cx (s_W_path  h) yk_W_path lk_R_201 zl_15 rfl rfl rfl (Nat.le_of_ble_eq_true rfl) ⟨Nat.le_of_ble_eq_true rfl, Nat.le_of_ble_eq_true rfl⟩ ⟨rfl, rfl⟩ ⟨(Nat.le_of_ble_eq_true rfl), (Nat.le_of_ble_eq_true rfl)⟩ d_R_build_70 (fun ra σ11 h => ?_)
      obtain ⟨rfl, h⟩ := h
      refine v_aload_n cx 0 d_R_build_73 rfl rfl ?_
      refine gf_R_53 cx d_R_build_74 ?_
      refine v_callVi0 (st := [.ref (ad 25), .int (zI road), .ref (ad 3)]) cx (s_W_pathSize  h) yk_W_pathSize lk_R_193 zl_15 rfl rfl rfl (Nat.le_of_ble_eq_true rfl) ⟨Nat.le_of_ble_eq_true rfl, Nat.le_of_ble_eq_true rfl⟩ ⟨rfl, rfl⟩ ⟨(Nat.le_of_ble_eq_true rfl), (Nat.le_of_ble_eq_true rfl)⟩ d_R_build_77 (fun r13 σ12 hr13 h => ?_)
      refine v_callVv0 (st := []) cx (s_L_setRoad hroad hr13 h) yk_L_setRoad lk_R_204 zl_3 rfl rfl rfl (Nat.le_of_ble_eq_true rfl) ⟨Nat.le_of_ble_eq_true rfl, Nat.le_of_ble_eq_true rfl⟩ ⟨rfl, rfl⟩ ⟨(Nat.le_of_ble_eq_true rfl), (Nat.le_of_ble_eq_true rfl)⟩ d_R_build_80 (fun σ14 h => ?_)
      refine v_iload cx 4 d_R_build_83 rfl ?_
      exact rt _ _ _ _ _ _ (Nat.le_of_ble_eq_true rfl) (Nat.le_of_ble_eq_true rfl) d_R_build_85 hr5 h
    · replace h := h.2 c9
      exact th _ _ _ _ _ _ 196 198 200 28 _ _ _ (Or.inl ztw_1) zsr_28 d_R_build_47 d_R_build_50 (Or.inl ⟨d_R_build_51, d_R_build_53, d_R_build_56⟩) (Nat.le_of_ble_eq_true rfl) (Nat.le_of_ble_eq_true rfl) (Nat.le_of_ble_eq_true rfl) (Nat.le_of_ble_eq_true rfl) h
