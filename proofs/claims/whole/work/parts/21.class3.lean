def q_H_rise (node : Int) (from_ : Int) (K : zS → Prop) (σ : zS) : Prop :=
  ∃ (I2 : Int → zS → Prop) (μ2 : Int → zS → Nat), (I2 from_ σ) ∧ ∀ (y1 : Int) (σ2 : zS), I2 y1 σ2 → zR y1 → 
  ∃ J68 : Int → zS → Prop, (∀ (w3 : Int) (σ4 : zS), J68 w3 σ4 → zR w3 → 
    (0 ≤ w3 ∧ w3 < 2592) ∧ (∀ σ6 : zS, σ6 = zU σ4 24 w3 node → (0 ≤ node ∧ node < 2592) ∧ (∀ σ8 : zS, σ8 = zU σ6 23 node w3 → K σ8))) ∧
  ((y1 ≤ 0 →
      J68 y1 σ2) ∧ (0 < y1 →
      ∀ x10 : Int, x10 = zShr (y1 - 1) 1 → (0 ≤ x10 ∧ x10 < 2592) ∧ ((0 ≤ σ2 24 x10 ∧ σ2 24 x10 < 2592) ∧ ((0 ≤ node ∧ node < 2592) ∧ (((σ2 22 node) < (σ2 22 (σ2 24 x10)) →
              (0 ≤ y1 ∧ y1 < 2592) ∧ (∀ σ20 : zS, σ20 = zU σ2 24 y1 (σ2 24 x10) → (0 ≤ σ20 24 y1 ∧ σ20 24 y1 < 2592) ∧ (∀ σ23 : zS, σ23 = zU σ20 23 (σ20 24 y1) y1 → I2 x10 σ23 ∧ μ2 x10 σ23 < μ2 y1 σ2))) ∧ ((σ2 22 (σ2 24 x10)) ≤ (σ2 22 node) →
              J68 y1 σ2))))))
abbrev rm_H_rise : Room := { frames := 0, cells := 0, slots := 0, locals := 0 }
set_option maxRecDepth 20000 in
set_option maxHeartbeats 4000000 in
theorem s_H_rise {Ω : zO} {ad : Nat → Nat} {node : Int} {from_ : Int} {K : zS → Prop} {σ : zS} (hnode : zR node) (hfrom_ : zR from_) (h : q_H_rise node from_ K σ) : zMv Ω y_H_rise (.code y_H_rise c_H_rise 5 none) rm_H_rise zLy ad [.ref (ad 21), .int (zI node), .int (zI from_)] σ K := by
  refine z_ofv (lv := [(0, .ref (ad 21)), (1, .int (zI node)), (2, .int (zI from_))]) (by decide) rfl (Nat.le_of_ble_eq_true rfl) ?_
  intro Γ Q cx rt
  unfold q_H_rise at h
  refine v_iload_n cx 2 d_H_rise_0 rfl rfl ?_
  refine v_istore_n (lv' := [(0, .ref (ad 21)), (1, .int (zI node)), (2, .int (zI from_)), (3, .int (zI from_))]) cx d_H_rise_1 rfl (by decide) rfl rfl ?_
  refine v_sb (lv' := [(0, .ref (ad 21)), (1, .int (zI node)), (3, .int (zI from_))]) [0, 1, 3] rfl ?_
  obtain ⟨I2, μ2, h0, h⟩ := h
  have L2 : ∀ (N2 : Nat) (y1 : Int) (σ2 : zS), μ2 y1 σ2 < N2 → I2 y1 σ2 → zR y1 → zV Ω Γ rm_H_rise 5 Q 0 0 zLy ad σ2 2 [(0, .ref (ad 21)), (1, .int (zI node)), (3, .int (zI y1))] [] := by
    intro N2
    induction N2 with
    | zero => intro y1 σ2 hm; exact absurd hm (Nat.not_lt_zero _)
    | succ N2 ih2 =>
      intro y1 σ2 hmm2 hI hy1
      replace h := h y1 σ2 hI hy1
      refine v_iload_n cx 2 d_H_rise_2 rfl rfl ?_
      obtain ⟨J68, hJ68, h⟩ := h
      have G68 : ∀ (w3 : Int) (σ4 : zS), J68 w3 σ4 → zR w3 → zV Ω Γ rm_H_rise 5 Q 0 0 zLy ad σ4 68 [(0, .ref (ad 21)), (1, .int (zI node)), (3, .int (zI w3))] [] := by
        intro w3 σ4 hJ hw3
        replace h := hJ68 w3 σ4 hJ hw3
        refine v_aload_n cx 0 d_H_rise_68 rfl rfl ?_
        refine gf_H_18 cx d_H_rise_69 ?_
        refine v_iload_n cx 2 d_H_rise_72 rfl rfl ?_
        refine v_iload_n cx 1 d_H_rise_73 rfl rfl ?_
        obtain ⟨hb5, h⟩ := h
        refine v_iast cx zl_24 (by decide) hb5.1 hb5.2 hnode d_H_rise_74 ?_
        refine v_ns (fun σ6 eσ6 => ?_)
        replace h := h σ6 eσ6
        refine v_aload_n cx 0 d_H_rise_75 rfl rfl ?_
        refine gf_H_15 cx d_H_rise_76 ?_
        refine v_iload_n cx 1 d_H_rise_79 rfl rfl ?_
        refine v_iload_n cx 2 d_H_rise_80 rfl rfl ?_
        obtain ⟨hb7, h⟩ := h
        refine v_iast cx zl_23 (by decide) hb7.1 hb7.2 hw3 d_H_rise_81 ?_
        refine v_ns (fun σ8 eσ8 => ?_)
        replace h := h σ8 eσ8
        exact rt _ _ _ _ _ (Nat.le_of_ble_eq_true rfl) (Nat.le_of_ble_eq_true rfl) d_H_rise_82 h
      refine v_if_le cx 68 d_H_rise_3 (by decide) hy1 (fun c9 => ?_) (fun c9 => ?_)
      · replace h := h.1 c9
        have hJ2 := h
        exact G68 _ _ hJ2 hy1
      · replace h := h.2 c9
        refine v_iload_n cx 2 d_H_rise_6 rfl rfl ?_
        refine v_iconst cx d_H_rise_7 ?_
        refine v_isub cx d_H_rise_8 ?_
        refine v_iconst cx d_H_rise_9 ?_
        refine v_ishr cx d_H_rise_10 ?_
        refine v_nm (fun x10 ex10 => ?_)
        replace h := h x10 ex10
        have hx10 : zR x10 := by rw [ex10]; exact (zR_shr _ _)
        refine v_istore (lv' := [(0, .ref (ad 21)), (1, .int (zI node)), (3, .int (zI y1)), (4, .int (zI x10))]) cx d_H_rise_11 (by decide) rfl rfl ?_
        refine v_aload_n cx 0 d_H_rise_13 rfl rfl ?_
        refine gf_H_9 cx d_H_rise_14 ?_
        refine v_aload_n cx 0 d_H_rise_17 rfl rfl ?_
        refine gf_H_18 cx d_H_rise_18 ?_
        refine v_iload cx 3 d_H_rise_21 rfl ?_
        obtain ⟨hb11, h⟩ := h
        refine v_iald cx zl_24 (by decide) hb11.1 hb11.2 d_H_rise_23 (fun hl12 => ?_)
        obtain ⟨hb13, h⟩ := h
        refine v_iald cx zl_22 (by decide) hb13.1 hb13.2 d_H_rise_24 (fun hl14 => ?_)
        refine v_aload_n cx 0 d_H_rise_25 rfl rfl ?_
        refine gf_H_9 cx d_H_rise_26 ?_
        refine v_iload_n cx 1 d_H_rise_29 rfl rfl ?_
        obtain ⟨hb15, h⟩ := h
        refine v_iald cx zl_22 (by decide) hb15.1 hb15.2 d_H_rise_30 (fun hl16 => ?_)
        refine v_icmp_gt cx 37 d_H_rise_31 (by decide) hl14 hl16 (fun c17 => ?_) (fun c17 => ?_)
        · replace h := h.1 c17
          refine v_aload_n cx 0 d_H_rise_37 rfl rfl ?_
          refine gf_H_18 cx d_H_rise_38 ?_
          refine v_iload_n cx 2 d_H_rise_41 rfl rfl ?_
          refine v_aload_n cx 0 d_H_rise_42 rfl rfl ?_
          refine gf_H_18 cx d_H_rise_43 ?_
          refine v_iload cx 3 d_H_rise_46 rfl ?_
          refine v_iald cx zl_24 (by decide) hb11.1 hb11.2 d_H_rise_48 (fun hl18 => ?_)
          obtain ⟨hb19, h⟩ := h
          refine v_iast cx zl_24 (by decide) hb19.1 hb19.2 hl18 d_H_rise_49 ?_
          refine v_ns (fun σ20 eσ20 => ?_)
          replace h := h σ20 eσ20
          refine v_aload_n cx 0 d_H_rise_50 rfl rfl ?_
          refine gf_H_15 cx d_H_rise_51 ?_
          refine v_aload_n cx 0 d_H_rise_54 rfl rfl ?_
          refine gf_H_18 cx d_H_rise_55 ?_
          refine v_iload_n cx 2 d_H_rise_58 rfl rfl ?_
          refine v_iald cx zl_24 (by decide) hb19.1 hb19.2 d_H_rise_59 (fun hl21 => ?_)
          refine v_iload_n cx 2 d_H_rise_60 rfl rfl ?_
          obtain ⟨hb22, h⟩ := h
          refine v_iast cx zl_23 (by decide) hb22.1 hb22.2 hy1 d_H_rise_61 ?_
          refine v_ns (fun σ23 eσ23 => ?_)
          replace h := h σ23 eσ23
          refine v_iload cx 3 d_H_rise_62 rfl ?_
          refine v_istore_n (lv' := [(0, .ref (ad 21)), (1, .int (zI node)), (3, .int (zI x10)), (4, .int (zI x10))]) cx d_H_rise_64 rfl (by decide) rfl rfl ?_
          refine v_goto cx 2 d_H_rise_65 (by decide) ?_
          refine v_sb (lv' := [(0, .ref (ad 21)), (1, .int (zI node)), (3, .int (zI x10))]) [0, 1, 2] rfl ?_
          obtain ⟨hI2, hm2⟩ := h
          exact ih2 _ _ (Nat.lt_of_lt_of_le hm2 (Nat.le_of_lt_succ hmm2)) hI2 hx10
        · replace h := h.2 c17
          refine v_goto cx 68 d_H_rise_34 (by decide) ?_
          refine v_sb (lv' := [(0, .ref (ad 21)), (1, .int (zI node)), (3, .int (zI y1))]) [0, 1, 2] rfl ?_
          have hJ2 := h
          exact G68 _ _ hJ2 hy1
  exact L2 _ _ _ (Nat.lt_succ_self _) h0 hfrom_
def q_H_offer (node : Int) (key : Int) (K : zS → Prop) (σ : zS) : Prop :=
  (0 ≤ node ∧ node < 2592) ∧ ((key < (σ 22 node) →
      ∃ J42 : zS → Prop, (∀ (σ5 : zS), J42 σ5 → 
        ∀ σ6 : zS, σ6 = zU σ5 22 node key → q_H_rise node (σ6 23 node) (fun σ8 =>
          K σ8) σ6) ∧
      (((σ 22 node) ≠ 1000000000 →
          J42 σ) ∧ ((σ 22 node) = 1000000000 →
          ∀ σ11 : zS, σ11 = zU σ 23 node (σ 21 3) → zR ((σ11 21 3) + 1) ∧ (∀ σ14 : zS, σ14 = zU σ11 21 3 ((σ11 21 3) + 1) → J42 σ14)))) ∧ ((σ 22 node) ≤ key →
      K σ))
abbrev rm_H_offer : Room := { frames := 1, cells := 0, slots := 0, locals := 24 }
set_option maxRecDepth 20000 in
set_option maxHeartbeats 4000000 in
theorem s_H_offer {Ω : zO} {ad : Nat → Nat} {node : Int} {key : Int} {K : zS → Prop} {σ : zS} (hnode : zR node) (hkey : zR key) (h : q_H_offer node key K σ) : zMv Ω y_H_offer (.code y_H_offer c_H_offer 3 none) rm_H_offer zLy ad [.ref (ad 21), .int (zI node), .int (zI key)] σ K := by
  refine z_ofv (lv := [(0, .ref (ad 21)), (1, .int (zI node)), (2, .int (zI key))]) (by decide) rfl (Nat.le_of_ble_eq_true rfl) ?_
  intro Γ Q cx rt
  unfold q_H_offer at h
  refine v_iload_n cx 2 d_H_offer_0 rfl rfl ?_
  refine v_aload_n cx 0 d_H_offer_1 rfl rfl ?_
  refine gf_H_9 cx d_H_offer_2 ?_
  refine v_iload_n cx 1 d_H_offer_5 rfl rfl ?_
  obtain ⟨hb1, h⟩ := h
  refine v_iald cx zl_22 (by decide) hb1.1 hb1.2 d_H_offer_6 (fun hl2 => ?_)
  refine v_icmp_lt cx 11 d_H_offer_7 (by decide) hkey hl2 (fun c3 => ?_) (fun c3 => ?_)
  · replace h := h.1 c3
    refine v_aload_n cx 0 d_H_offer_11 rfl rfl ?_
    refine gf_H_9 cx d_H_offer_12 ?_
    refine v_iload_n cx 1 d_H_offer_15 rfl rfl ?_
    refine v_iald cx zl_22 (by decide) hb1.1 hb1.2 d_H_offer_16 (fun hl4 => ?_)
    refine v_ldc cx ct_H_25 d_H_offer_17 ?_
    obtain ⟨J42, hJ42, h⟩ := h
    have G42 : ∀ (σ5 : zS), J42 σ5 → zV Ω Γ rm_H_offer 3 Q 0 0 zLy ad σ5 42 [(0, .ref (ad 21)), (1, .int (zI node)), (2, .int (zI key))] [] := by
      intro σ5 hJ 
      replace h := hJ42 σ5 hJ 
      refine v_aload_n cx 0 d_H_offer_42 rfl rfl ?_
      refine gf_H_9 cx d_H_offer_43 ?_
      refine v_iload_n cx 1 d_H_offer_46 rfl rfl ?_
      refine v_iload_n cx 2 d_H_offer_47 rfl rfl ?_
      refine v_iast cx zl_22 (by decide) hb1.1 hb1.2 hkey d_H_offer_48 ?_
      refine v_ns (fun σ6 eσ6 => ?_)
      replace h := h σ6 eσ6
      refine v_aload_n cx 0 d_H_offer_49 rfl rfl ?_
      refine v_iload_n cx 1 d_H_offer_50 rfl rfl ?_
      refine v_aload_n cx 0 d_H_offer_51 rfl rfl ?_
      refine gf_H_15 cx d_H_offer_52 ?_
      refine v_iload_n cx 1 d_H_offer_55 rfl rfl ?_
      refine v_iald cx zl_23 (by decide) hb1.1 hb1.2 d_H_offer_56 (fun hl7 => ?_)
      refine v_callVv0 (st := []) cx (s_H_rise hnode hl7 h) yk_H_rise lk_H_32 zl_21 rfl rfl rfl (Nat.le_of_ble_eq_true rfl) ⟨Nat.le_of_ble_eq_true rfl, Nat.le_of_ble_eq_true rfl⟩ ⟨rfl, rfl⟩ ⟨(Nat.le_of_ble_eq_true rfl), (Nat.le_of_ble_eq_true rfl)⟩ d_H_offer_57 (fun σ8 h => ?_)
      exact rt _ _ _ _ _ (Nat.le_of_ble_eq_true rfl) (Nat.le_of_ble_eq_true rfl) d_H_offer_60 h
    refine v_icmp_ne cx 42 d_H_offer_19 (by decide) hl4 ⟨by decide, by decide⟩ (fun c9 => ?_) (fun c9 => ?_)
    · replace h := h.1 c9
      have hJ2 := h
      exact G42 _ hJ2 
    · replace h := h.2 c9
      refine v_aload_n cx 0 d_H_offer_22 rfl rfl ?_
      refine gf_H_15 cx d_H_offer_23 ?_
      refine v_iload_n cx 1 d_H_offer_26 rfl rfl ?_
      refine v_aload_n cx 0 d_H_offer_27 rfl rfl ?_
      refine gf_H_21 cx d_H_offer_28 (fun hl10 => ?_)
      refine v_iast cx zl_23 (by decide) hb1.1 hb1.2 hl10 d_H_offer_31 ?_
      refine v_ns (fun σ11 eσ11 => ?_)
      replace h := h σ11 eσ11
      refine v_aload_n cx 0 d_H_offer_32 rfl rfl ?_
      refine v_dup cx d_H_offer_33 rfl ?_
      refine gf_H_21 cx d_H_offer_34 (fun hl12 => ?_)
      refine v_iconst cx d_H_offer_37 ?_
      refine v_iadd cx d_H_offer_38 ?_
      obtain ⟨hr13, h⟩ := h
      refine pf_H_21 cx hr13 d_H_offer_39 ?_
      refine v_ns (fun σ14 eσ14 => ?_)
      replace h := h σ14 eσ14
      have hJ2 := h
      exact G42 _ hJ2 
  · replace h := h.2 c3
    exact rt _ _ _ _ _ (Nat.le_of_ble_eq_true rfl) (Nat.le_of_ble_eq_true rfl) d_H_offer_10 h
def q_H_sink (node : Int) (K : zS → Prop) (σ : zS) : Prop :=
  ∃ (I4 : Int → Int → zS → Prop) (μ4 : Int → Int → zS → Nat), (I4 0 1 σ) ∧ ∀ (y1 y2 : Int) (σ3 : zS), I4 y1 y2 σ3 → zR y1 → zR y2 → 
  ∃ J110 : Int → zS → Prop, (∀ (w5 : Int) (σ6 : zS), J110 w5 σ6 → zR w5 → 
    (0 ≤ w5 ∧ w5 < 2592) ∧ (∀ σ8 : zS, σ8 = zU σ6 24 w5 node → (0 ≤ node ∧ node < 2592) ∧ (∀ σ10 : zS, σ10 = zU σ8 23 node w5 → K σ10))) ∧
  (((σ3 21 3) ≤ y2 →
      J110 y1 σ3) ∧ (y2 < (σ3 21 3) →
      ∃ J52 : Int → Prop, (∀ (w13 : Int), J52 w13 → zR w13 → 
        (0 ≤ node ∧ node < 2592) ∧ ((0 ≤ w13 ∧ w13 < 2592) ∧ ((0 ≤ σ3 24 w13 ∧ σ3 24 w13 < 2592) ∧ (((σ3 22 (σ3 24 w13)) < (σ3 22 node) →
                (0 ≤ y1 ∧ y1 < 2592) ∧ (∀ σ23 : zS, σ23 = zU σ3 24 y1 (σ3 24 w13) → (0 ≤ σ23 24 y1 ∧ σ23 24 y1 < 2592) ∧ (∀ σ26 : zS, σ26 = zU σ23 23 (σ23 24 y1) y1 → ∀ x27 : Int, x27 = (2 * w13) + 1 → I4 w13 x27 σ26 ∧ zR x27 ∧ μ4 w13 x27 σ26 < μ4 y1 y2 σ3))) ∧ ((σ3 22 node) ≤ (σ3 22 (σ3 24 w13)) →
                J110 y1 σ3))))) ∧
      (zR (y2 + 1) ∧ (((σ3 21 3) ≤ (y2 + 1) →
            J52 y2) ∧ ((y2 + 1) < (σ3 21 3) →
            (0 ≤ y2 + 1 ∧ y2 + 1 < 2592) ∧ ((0 ≤ σ3 24 (y2 + 1) ∧ σ3 24 (y2 + 1) < 2592) ∧ ((0 ≤ y2 ∧ y2 < 2592) ∧ ((0 ≤ σ3 24 y2 ∧ σ3 24 y2 < 2592) ∧ (((σ3 22 (σ3 24 y2)) ≤ (σ3 22 (σ3 24 (y2 + 1))) →
                      J52 y2) ∧ ((σ3 22 (σ3 24 (y2 + 1))) < (σ3 22 (σ3 24 y2)) →
                      J52 (y2 + 1)))))))))))
abbrev rm_H_sink : Room := { frames := 0, cells := 0, slots := 0, locals := 0 }
set_option maxRecDepth 20000 in
set_option maxHeartbeats 4000000 in
theorem s_H_sink {Ω : zO} {ad : Nat → Nat} {node : Int} {K : zS → Prop} {σ : zS} (hnode : zR node) (h : q_H_sink node K σ) : zMv Ω y_H_sink (.code y_H_sink c_H_sink 4 none) rm_H_sink zLy ad [.ref (ad 21), .int (zI node)] σ K := by
  refine z_ofv (lv := [(0, .ref (ad 21)), (1, .int (zI node))]) (by decide) rfl (Nat.le_of_ble_eq_true rfl) ?_
  intro Γ Q cx rt
  unfold q_H_sink at h
  refine v_iconst cx d_H_sink_0 ?_
  refine v_istore_n (lv' := [(0, .ref (ad 21)), (1, .int (zI node)), (2, .int (zI 0))]) cx d_H_sink_1 rfl (by decide) rfl rfl ?_
  refine v_iconst cx d_H_sink_2 ?_
  refine v_istore_n (lv' := [(0, .ref (ad 21)), (1, .int (zI node)), (2, .int (zI 0)), (3, .int (zI 1))]) cx d_H_sink_3 rfl (by decide) rfl rfl ?_
  obtain ⟨I4, μ4, h0, h⟩ := h
  have L4 : ∀ (N4 : Nat) (y1 y2 : Int) (σ3 : zS), μ4 y1 y2 σ3 < N4 → I4 y1 y2 σ3 → zR y1 → zR y2 → zV Ω Γ rm_H_sink 4 Q 0 0 zLy ad σ3 4 [(0, .ref (ad 21)), (1, .int (zI node)), (2, .int (zI y1)), (3, .int (zI y2))] [] := by
    intro N4
    induction N4 with
    | zero => intro y1 y2 σ3 hm; exact absurd hm (Nat.not_lt_zero _)
    | succ N4 ih4 =>
      intro y1 y2 σ3 hmm4 hI hy1 hy2
      replace h := h y1 y2 σ3 hI hy1 hy2
      refine v_iload_n cx 3 d_H_sink_4 rfl rfl ?_
      refine v_aload_n cx 0 d_H_sink_5 rfl rfl ?_
      refine gf_H_21 cx d_H_sink_6 (fun hl4 => ?_)
      obtain ⟨J110, hJ110, h⟩ := h
      have G110 : ∀ (w5 : Int) (σ6 : zS), J110 w5 σ6 → zR w5 → zV Ω Γ rm_H_sink 4 Q 0 0 zLy ad σ6 110 [(0, .ref (ad 21)), (1, .int (zI node)), (2, .int (zI w5))] [] := by
        intro w5 σ6 hJ hw5
        replace h := hJ110 w5 σ6 hJ hw5
        refine v_aload_n cx 0 d_H_sink_110 rfl rfl ?_
        refine gf_H_18 cx d_H_sink_111 ?_
        refine v_iload_n cx 2 d_H_sink_114 rfl rfl ?_
        refine v_iload_n cx 1 d_H_sink_115 rfl rfl ?_
        obtain ⟨hb7, h⟩ := h
        refine v_iast cx zl_24 (by decide) hb7.1 hb7.2 hnode d_H_sink_116 ?_
        refine v_ns (fun σ8 eσ8 => ?_)
        replace h := h σ8 eσ8
        refine v_aload_n cx 0 d_H_sink_117 rfl rfl ?_
        refine gf_H_15 cx d_H_sink_118 ?_
        refine v_iload_n cx 1 d_H_sink_121 rfl rfl ?_
        refine v_iload_n cx 2 d_H_sink_122 rfl rfl ?_
        obtain ⟨hb9, h⟩ := h
        refine v_iast cx zl_23 (by decide) hb9.1 hb9.2 hw5 d_H_sink_123 ?_
        refine v_ns (fun σ10 eσ10 => ?_)
        replace h := h σ10 eσ10
        exact rt _ _ _ _ _ (Nat.le_of_ble_eq_true rfl) (Nat.le_of_ble_eq_true rfl) d_H_sink_124 h
      refine v_icmp_ge cx 110 d_H_sink_9 (by decide) hy2 hl4 (fun c11 => ?_) (fun c11 => ?_)
      · replace h := h.1 c11
        refine v_sb (lv' := [(0, .ref (ad 21)), (1, .int (zI node)), (2, .int (zI y1))]) [0, 1, 2] rfl ?_
        have hJ2 := h
        exact G110 _ _ hJ2 hy1
      · replace h := h.2 c11
        refine v_iload_n cx 3 d_H_sink_12 rfl rfl ?_
        refine v_iconst cx d_H_sink_13 ?_
        refine v_iadd cx d_H_sink_14 ?_
        refine v_aload_n cx 0 d_H_sink_15 rfl rfl ?_
        refine gf_H_21 cx d_H_sink_16 (fun hl12 => ?_)
        obtain ⟨J52, hJ52, h⟩ := h
        have G52 : ∀ (w13 : Int), J52 w13 → zR w13 → zV Ω Γ rm_H_sink 4 Q 0 0 zLy ad σ3 52 [(0, .ref (ad 21)), (1, .int (zI node)), (2, .int (zI y1)), (3, .int (zI w13))] [] := by
          intro w13 hJ hw13
          replace h := hJ52 w13 hJ hw13
          refine v_aload_n cx 0 d_H_sink_52 rfl rfl ?_
          refine gf_H_9 cx d_H_sink_53 ?_
          refine v_iload_n cx 1 d_H_sink_56 rfl rfl ?_
          obtain ⟨hb14, h⟩ := h
          refine v_iald cx zl_22 (by decide) hb14.1 hb14.2 d_H_sink_57 (fun hl15 => ?_)
          refine v_aload_n cx 0 d_H_sink_58 rfl rfl ?_
          refine gf_H_9 cx d_H_sink_59 ?_
          refine v_aload_n cx 0 d_H_sink_62 rfl rfl ?_
          refine gf_H_18 cx d_H_sink_63 ?_
          refine v_iload_n cx 3 d_H_sink_66 rfl rfl ?_
          obtain ⟨hb16, h⟩ := h
          refine v_iald cx zl_24 (by decide) hb16.1 hb16.2 d_H_sink_67 (fun hl17 => ?_)
          obtain ⟨hb18, h⟩ := h
          refine v_iald cx zl_22 (by decide) hb18.1 hb18.2 d_H_sink_68 (fun hl19 => ?_)
          refine v_icmp_gt cx 75 d_H_sink_69 (by decide) hl15 hl19 (fun c20 => ?_) (fun c20 => ?_)
          · replace h := h.1 c20
            refine v_aload_n cx 0 d_H_sink_75 rfl rfl ?_
            refine gf_H_18 cx d_H_sink_76 ?_
            refine v_iload_n cx 2 d_H_sink_79 rfl rfl ?_
            refine v_aload_n cx 0 d_H_sink_80 rfl rfl ?_
            refine gf_H_18 cx d_H_sink_81 ?_
            refine v_iload_n cx 3 d_H_sink_84 rfl rfl ?_
            refine v_iald cx zl_24 (by decide) hb16.1 hb16.2 d_H_sink_85 (fun hl21 => ?_)
            obtain ⟨hb22, h⟩ := h
            refine v_iast cx zl_24 (by decide) hb22.1 hb22.2 hl21 d_H_sink_86 ?_
            refine v_ns (fun σ23 eσ23 => ?_)
            replace h := h σ23 eσ23
            refine v_aload_n cx 0 d_H_sink_87 rfl rfl ?_
            refine gf_H_15 cx d_H_sink_88 ?_
            refine v_aload_n cx 0 d_H_sink_91 rfl rfl ?_
            refine gf_H_18 cx d_H_sink_92 ?_
            refine v_iload_n cx 2 d_H_sink_95 rfl rfl ?_
            refine v_iald cx zl_24 (by decide) hb22.1 hb22.2 d_H_sink_96 (fun hl24 => ?_)
            refine v_iload_n cx 2 d_H_sink_97 rfl rfl ?_
            obtain ⟨hb25, h⟩ := h
            refine v_iast cx zl_23 (by decide) hb25.1 hb25.2 hy1 d_H_sink_98 ?_
            refine v_ns (fun σ26 eσ26 => ?_)
            replace h := h σ26 eσ26
            refine v_iload_n cx 3 d_H_sink_99 rfl rfl ?_
            refine v_istore_n (lv' := [(0, .ref (ad 21)), (1, .int (zI node)), (2, .int (zI w13)), (3, .int (zI w13))]) cx d_H_sink_100 rfl (by decide) rfl rfl ?_
            refine v_iconst cx d_H_sink_101 ?_
            refine v_iload_n cx 2 d_H_sink_102 rfl rfl ?_
            refine v_imul cx d_H_sink_103 ?_
            refine v_iconst cx d_H_sink_104 ?_
            refine v_iadd cx d_H_sink_105 ?_
            refine v_nm (fun x27 ex27 => ?_)
            replace h := h x27 ex27
            refine v_istore_n (lv' := [(0, .ref (ad 21)), (1, .int (zI node)), (2, .int (zI w13)), (3, .int (zI x27))]) cx d_H_sink_106 rfl (by decide) rfl rfl ?_
            refine v_goto cx 4 d_H_sink_107 (by decide) ?_
            obtain ⟨hI2, hz28, hm2⟩ := h
            exact ih4 _ _ _ (Nat.lt_of_lt_of_le hm2 (Nat.le_of_lt_succ hmm4)) hI2 hw13 hz28
          · replace h := h.2 c20
            refine v_goto cx 110 d_H_sink_72 (by decide) ?_
            refine v_sb (lv' := [(0, .ref (ad 21)), (1, .int (zI node)), (2, .int (zI y1))]) [0, 1, 2] rfl ?_
            have hJ2 := h
            exact G110 _ _ hJ2 hy1
        obtain ⟨hr29, h⟩ := h
        refine v_icmp_ge cx 52 d_H_sink_19 (by decide) hr29 hl12 (fun c30 => ?_) (fun c30 => ?_)
        · replace h := h.1 c30
          have hJ2 := h
          exact G52 _ hJ2 hy2
        · replace h := h.2 c30
          refine v_aload_n cx 0 d_H_sink_22 rfl rfl ?_
          refine gf_H_9 cx d_H_sink_23 ?_
          refine v_aload_n cx 0 d_H_sink_26 rfl rfl ?_
          refine gf_H_18 cx d_H_sink_27 ?_
          refine v_iload_n cx 3 d_H_sink_30 rfl rfl ?_
          refine v_iconst cx d_H_sink_31 ?_
          refine v_iadd cx d_H_sink_32 ?_
          obtain ⟨hb31, h⟩ := h
          refine v_iald cx zl_24 (by decide) hb31.1 hb31.2 d_H_sink_33 (fun hl32 => ?_)
          obtain ⟨hb33, h⟩ := h
          refine v_iald cx zl_22 (by decide) hb33.1 hb33.2 d_H_sink_34 (fun hl34 => ?_)
          refine v_aload_n cx 0 d_H_sink_35 rfl rfl ?_
          refine gf_H_9 cx d_H_sink_36 ?_
          refine v_aload_n cx 0 d_H_sink_39 rfl rfl ?_
          refine gf_H_18 cx d_H_sink_40 ?_
          refine v_iload_n cx 3 d_H_sink_43 rfl rfl ?_
          obtain ⟨hb35, h⟩ := h
          refine v_iald cx zl_24 (by decide) hb35.1 hb35.2 d_H_sink_44 (fun hl36 => ?_)
          obtain ⟨hb37, h⟩ := h
          refine v_iald cx zl_22 (by decide) hb37.1 hb37.2 d_H_sink_45 (fun hl38 => ?_)
          refine v_icmp_ge cx 52 d_H_sink_46 (by decide) hl34 hl38 (fun c39 => ?_) (fun c39 => ?_)
          · replace h := h.1 c39
            have hJ2 := h
            exact G52 _ hJ2 hy2
          · replace h := h.2 c39
            refine v_iinc (lv' := [(0, .ref (ad 21)), (1, .int (zI node)), (2, .int (zI y1)), (3, .int (zI (y2 + 1)))]) cx 3 d_H_sink_49 rfl (by decide) rfl rfl ?_
            have hJ2 := h
            exact G52 _ hJ2 hr29
  exact L4 _ _ _ _ (Nat.lt_succ_self _) h0 ⟨by decide, by decide⟩ ⟨by decide, by decide⟩
def q_H_poll (K : Int → zS → Prop) (σ : zS) : Prop :=
  ((σ 21 3) ≠ 0 →
    ∀ x4 : Int, x4 = σ 24 0 → zR ((σ 21 3) - 1) ∧ (∀ σ7 : zS, σ7 = zU σ 21 3 ((σ 21 3) - 1) → ((σ7 21 3) ≤ 0 →
        K x4 σ7) ∧ (0 < (σ7 21 3) →
        (0 ≤ σ7 21 3 ∧ σ7 21 3 < 2592) ∧ (q_H_sink (σ7 24 (σ7 21 3)) (fun σ13 =>
            K x4 σ13) σ7)))) ∧ ((σ 21 3) = 0 →
    K (-1) σ)
abbrev rm_H_poll : Room := { frames := 1, cells := 0, slots := 0, locals := 23 }
set_option maxRecDepth 20000 in
set_option maxHeartbeats 4000000 in
theorem s_H_poll {Ω : zO} {ad : Nat → Nat} {K : Int → zS → Prop} {σ : zS}  (h : q_H_poll K σ) : zMi Ω y_H_poll (.code y_H_poll c_H_poll 2 (some .int)) rm_H_poll zLy ad [.ref (ad 21)] σ K := by
  refine z_ofi (lv := [(0, .ref (ad 21))]) (by decide) rfl (Nat.le_of_ble_eq_true rfl) ?_
  intro Γ Q cx rt
  unfold q_H_poll at h
  refine v_aload_n cx 0 d_H_poll_0 rfl rfl ?_
  refine gf_H_21 cx d_H_poll_1 (fun hl1 => ?_)
  refine v_if_ne cx 9 d_H_poll_4 (by decide) hl1 (fun c2 => ?_) (fun c2 => ?_)
  · replace h := h.1 c2
    refine v_aload_n cx 0 d_H_poll_9 rfl rfl ?_
    refine gf_H_18 cx d_H_poll_10 ?_
    refine v_iconst cx d_H_poll_13 ?_
    refine v_iald cx zl_24 (by decide) (by decide) (by decide) d_H_poll_14 (fun hl3 => ?_)
    refine v_nm (fun x4 ex4 => ?_)
    replace h := h x4 ex4
    have hx4 : zR x4 := by rw [ex4]; exact hl3
    refine v_istore_n (lv' := [(0, .ref (ad 21)), (1, .int (zI x4))]) cx d_H_poll_15 rfl (by decide) rfl rfl ?_
    refine v_aload_n cx 0 d_H_poll_16 rfl rfl ?_
    refine v_dup cx d_H_poll_17 rfl ?_
    refine gf_H_21 cx d_H_poll_18 (fun hl5 => ?_)
    refine v_iconst cx d_H_poll_21 ?_
    refine v_isub cx d_H_poll_22 ?_
    obtain ⟨hr6, h⟩ := h
    refine pf_H_21 cx hr6 d_H_poll_23 ?_
    refine v_ns (fun σ7 eσ7 => ?_)
    replace h := h σ7 eσ7
    refine v_aload_n cx 0 d_H_poll_26 rfl rfl ?_
    refine gf_H_21 cx d_H_poll_27 (fun hl8 => ?_)
    refine v_if_le cx 46 d_H_poll_30 (by decide) hl8 (fun c9 => ?_) (fun c9 => ?_)
    · replace h := h.1 c9
      refine v_iload_n cx 1 d_H_poll_46 rfl rfl ?_
      exact rt _ _ _ _ _ _ (Nat.le_of_ble_eq_true rfl) (Nat.le_of_ble_eq_true rfl) d_H_poll_47 hx4 h
    · replace h := h.2 c9
      refine v_aload_n cx 0 d_H_poll_33 rfl rfl ?_
      refine v_aload_n cx 0 d_H_poll_34 rfl rfl ?_
      refine gf_H_18 cx d_H_poll_35 ?_
      refine v_aload_n cx 0 d_H_poll_38 rfl rfl ?_
      refine gf_H_21 cx d_H_poll_39 (fun hl10 => ?_)
      obtain ⟨hb11, h⟩ := h
      refine v_iald cx zl_24 (by decide) hb11.1 hb11.2 d_H_poll_42 (fun hl12 => ?_)
      refine v_callVv0 (st := []) cx (s_H_sink hl12 h) yk_H_sink lk_H_36 zl_21 rfl rfl rfl (Nat.le_of_ble_eq_true rfl) ⟨Nat.le_of_ble_eq_true rfl, Nat.le_of_ble_eq_true rfl⟩ ⟨rfl, rfl⟩ ⟨(Nat.le_of_ble_eq_true rfl), (Nat.le_of_ble_eq_true rfl)⟩ d_H_poll_43 (fun σ13 h => ?_)
      refine v_iload_n cx 1 d_H_poll_46 rfl rfl ?_
      exact rt _ _ _ _ _ _ (Nat.le_of_ble_eq_true rfl) (Nat.le_of_ble_eq_true rfl) d_H_poll_47 hx4 h
  · replace h := h.2 c2
    refine v_iconst cx d_H_poll_7 ?_
    exact rt _ _ _ _ _ _ (Nat.le_of_ble_eq_true rfl) (Nat.le_of_ble_eq_true rfl) d_H_poll_8 ⟨by decide, by decide⟩ h
def q_W_path (K : zS → Prop) (σ : zS) : Prop :=
  K σ
abbrev rm_W_path : Room := { frames := 0, cells := 0, slots := 0, locals := 0 }
set_option maxRecDepth 20000 in
set_option maxHeartbeats 4000000 in
theorem s_W_path {Ω : zO} {ad : Nat → Nat} {K : zS → Prop} {σ : zS}  (h : q_W_path K σ) : zMr Ω y_W_path (.code y_W_path c_W_path 1 (some (.array .int))) rm_W_path zLy ad [.ref (ad 15)] σ (fun ra u => ra = ad 25 ∧ K u) := by
  refine z_ofr (lv := [(0, .ref (ad 15))]) (Or.inr ⟨_, rfl⟩) (by decide) rfl (Nat.le_of_ble_eq_true rfl) ?_
  intro Γ Q cx rt
  unfold q_W_path at h
  refine v_aload_n cx 0 d_W_path_0 rfl rfl ?_
  refine gf_W_45 cx d_W_path_1 ?_
  exact rt _ _ _ _ _ _ (Nat.le_of_ble_eq_true rfl) (Nat.le_of_ble_eq_true rfl) d_W_path_4 ⟨rfl, h⟩
def q_W_pathSize (K : Int → zS → Prop) (σ : zS) : Prop :=
  K (σ 15 13) σ
abbrev rm_W_pathSize : Room := { frames := 0, cells := 0, slots := 0, locals := 0 }
set_option maxRecDepth 20000 in
set_option maxHeartbeats 4000000 in
theorem s_W_pathSize {Ω : zO} {ad : Nat → Nat} {K : Int → zS → Prop} {σ : zS}  (h : q_W_pathSize K σ) : zMi Ω y_W_pathSize (.code y_W_pathSize c_W_pathSize 1 (some .int)) rm_W_pathSize zLy ad [.ref (ad 15)] σ K := by
  refine z_ofi (lv := [(0, .ref (ad 15))]) (by decide) rfl (Nat.le_of_ble_eq_true rfl) ?_
  intro Γ Q cx rt
  unfold q_W_pathSize at h
  refine v_aload_n cx 0 d_W_pathSize_0 rfl rfl ?_
  refine gf_W_58 cx d_W_pathSize_1 (fun hl1 => ?_)
  exact rt _ _ _ _ _ _ (Nat.le_of_ble_eq_true rfl) (Nat.le_of_ble_eq_true rfl) d_W_pathSize_4 hl1 h
def q_W_leastKey (place : Int) (K : Int → zS → Prop) (σ : zS) : Prop :=
  ∃ (I5 : Int → Int → zS → Prop) (μ5 : Int → Int → zS → Nat), (I5 1000000000 0 σ) ∧ ∀ (y1 y2 : Int) (σ3 : zS), I5 y1 y2 σ3 → zR y1 → zR y2 → 
  ((σ3 15 12) ≤ y2 →
    K y1 σ3) ∧ (y2 < (σ3 15 12) →
    ∀ x6 : Int, x6 = (y2 * 648) + (place * 8) → ∃ (I28 : Int → Int → zS → Prop) (μ28 : Int → Int → zS → Nat), (I28 y1 0 σ3) ∧ ∀ (y7 y8 : Int) (σ9 : zS), I28 y7 y8 σ9 → zR y7 → zR y8 → 
    (8 ≤ y8 →
      I5 y7 (y2 + 1) σ9 ∧ zR (y2 + 1) ∧ μ5 y7 (y2 + 1) σ9 < μ5 y1 y2 σ3) ∧ (y8 < 8 →
      zR (x6 + y8) ∧ (q_H_key (x6 + y8) (fun r15 σ14 =>
          ∀ x17 : Int, x17 = min y7 r15 → I28 x17 (y8 + 1) σ14 ∧ zR (y8 + 1) ∧ μ28 x17 (y8 + 1) σ14 < μ28 y7 y8 σ9) σ9)))
abbrev rm_W_leastKey : Room := { frames := 1, cells := 0, slots := 0, locals := 21 }
set_option maxRecDepth 20000 in
set_option maxHeartbeats 4000000 in
theorem s_W_leastKey {Ω : zO} {ad : Nat → Nat} {place : Int} {K : Int → zS → Prop} {σ : zS} (hplace : zR place) (h : q_W_leastKey place K σ) : zMi Ω y_W_leastKey (.code y_W_leastKey c_W_leastKey 6 (some .int)) rm_W_leastKey zLy ad [.ref (ad 15), .int (zI place)] σ K := by
  refine z_ofi (lv := [(0, .ref (ad 15)), (1, .int (zI place))]) (by decide) rfl (Nat.le_of_ble_eq_true rfl) ?_
  intro Γ Q cx rt
  unfold q_W_leastKey at h
  refine v_ldc cx ct_W_176 d_W_leastKey_0 ?_
  refine v_istore_n (lv' := [(0, .ref (ad 15)), (1, .int (zI place)), (2, .int (zI 1000000000))]) cx d_W_leastKey_2 rfl (by decide) rfl rfl ?_
  refine v_iconst cx d_W_leastKey_3 ?_
  refine v_istore_n (lv' := [(0, .ref (ad 15)), (1, .int (zI place)), (2, .int (zI 1000000000)), (3, .int (zI 0))]) cx d_W_leastKey_4 rfl (by decide) rfl rfl ?_
  obtain ⟨I5, μ5, h0, h⟩ := h
  have L5 : ∀ (N5 : Nat) (y1 y2 : Int) (σ3 : zS), μ5 y1 y2 σ3 < N5 → I5 y1 y2 σ3 → zR y1 → zR y2 → zV Ω Γ rm_W_leastKey 6 Q 0 0 zLy ad σ3 5 [(0, .ref (ad 15)), (1, .int (zI place)), (2, .int (zI y1)), (3, .int (zI y2))] [] := by
    intro N5
    induction N5 with
    | zero => intro y1 y2 σ3 hm; exact absurd hm (Nat.not_lt_zero _)
    | succ N5 ih5 =>
      intro y1 y2 σ3 hmm5 hI hy1 hy2
      replace h := h y1 y2 σ3 hI hy1 hy2
      refine v_iload_n cx 3 d_W_leastKey_5 rfl rfl ?_
      refine v_aload_n cx 0 d_W_leastKey_6 rfl rfl ?_
      refine gf_W_54 cx d_W_leastKey_7 (fun hl4 => ?_)
      refine v_icmp_ge cx 64 d_W_leastKey_10 (by decide) hy2 hl4 (fun c5 => ?_) (fun c5 => ?_)
      · replace h := h.1 c5
        refine v_iload_n cx 2 d_W_leastKey_64 rfl rfl ?_
        exact rt _ _ _ _ _ _ (Nat.le_of_ble_eq_true rfl) (Nat.le_of_ble_eq_true rfl) d_W_leastKey_65 hy1 h
      · replace h := h.2 c5
        refine v_iload_n cx 3 d_W_leastKey_13 rfl rfl ?_
        refine v_sipush cx (by decide) d_W_leastKey_14 ?_
        refine v_imul cx d_W_leastKey_17 ?_
        refine v_iload_n cx 1 d_W_leastKey_18 rfl rfl ?_
        refine v_bipush cx (by decide) d_W_leastKey_19 ?_
        refine v_imul cx d_W_leastKey_21 ?_
        refine v_iadd cx d_W_leastKey_22 ?_
        refine v_nm (fun x6 ex6 => ?_)
        replace h := h x6 ex6
        refine v_istore (lv' := [(0, .ref (ad 15)), (1, .int (zI place)), (2, .int (zI y1)), (3, .int (zI y2)), (4, .int (zI x6))]) cx d_W_leastKey_23 (by decide) rfl rfl ?_
        refine v_iconst cx d_W_leastKey_25 ?_
        refine v_istore (lv' := [(0, .ref (ad 15)), (1, .int (zI place)), (2, .int (zI y1)), (3, .int (zI y2)), (4, .int (zI x6)), (5, .int (zI 0))]) cx d_W_leastKey_26 (by decide) rfl rfl ?_
        obtain ⟨I28, μ28, h0, h⟩ := h
        have L28 : ∀ (N28 : Nat) (y7 y8 : Int) (σ9 : zS), μ28 y7 y8 σ9 < N28 → I28 y7 y8 σ9 → zR y7 → zR y8 → zV Ω Γ rm_W_leastKey 6 Q 0 0 zLy ad σ9 28 [(0, .ref (ad 15)), (1, .int (zI place)), (2, .int (zI y7)), (3, .int (zI y2)), (4, .int (zI x6)), (5, .int (zI y8))] [] := by
          intro N28
          induction N28 with
          | zero => intro y7 y8 σ9 hm; exact absurd hm (Nat.not_lt_zero _)
          | succ N28 ih28 =>
            intro y7 y8 σ9 hmm28 hI hy7 hy8
            replace h := h y7 y8 σ9 hI hy7 hy8
            refine v_iload cx 5 d_W_leastKey_28 rfl ?_
            refine v_bipush cx (by decide) d_W_leastKey_30 ?_
            refine v_icmp_ge cx 58 d_W_leastKey_32 (by decide) hy8 ⟨by decide, by decide⟩ (fun c10 => ?_) (fun c10 => ?_)
            · replace h := h.1 c10
              refine v_iinc (lv' := [(0, .ref (ad 15)), (1, .int (zI place)), (2, .int (zI y7)), (3, .int (zI (y2 + 1))), (4, .int (zI x6)), (5, .int (zI y8))]) cx 3 d_W_leastKey_58 rfl (by decide) rfl rfl ?_
              refine v_goto cx 5 d_W_leastKey_61 (by decide) ?_
              refine v_sb (lv' := [(0, .ref (ad 15)), (1, .int (zI place)), (2, .int (zI y7)), (3, .int (zI (y2 + 1)))]) [0, 1, 2, 3] rfl ?_
              obtain ⟨hI2, hz12, hm2⟩ := h
              exact ih5 _ _ _ (Nat.lt_of_lt_of_le hm2 (Nat.le_of_lt_succ hmm5)) hI2 hy7 hz12
            · replace h := h.2 c10
              refine v_iload_n cx 2 d_W_leastKey_35 rfl rfl ?_
              refine v_aload_n cx 0 d_W_leastKey_36 rfl rfl ?_
              refine gf_W_41 cx d_W_leastKey_37 ?_
              refine v_iload cx 4 d_W_leastKey_40 rfl ?_
              refine v_iload cx 5 d_W_leastKey_42 rfl ?_
              refine v_iadd cx d_W_leastKey_44 ?_
              obtain ⟨hr13, h⟩ := h
              refine v_callVi0 (st := [.int (zI y7)]) cx (s_H_key hr13 h) yk_H_key lk_W_167 zl_21 rfl rfl rfl (Nat.le_of_ble_eq_true rfl) ⟨Nat.le_of_ble_eq_true rfl, Nat.le_of_ble_eq_true rfl⟩ ⟨rfl, rfl⟩ ⟨(Nat.le_of_ble_eq_true rfl), (Nat.le_of_ble_eq_true rfl)⟩ d_W_leastKey_45 (fun r15 σ14 hr15 h => ?_)
              refine v_mmin cx lk_W_177 zmath_min.1 zmath_min.2.1 zmath_min.2.2 hy7 hr15 (Nat.le_of_ble_eq_true rfl) (Nat.le_of_ble_eq_true rfl) (Nat.le_of_ble_eq_true rfl) (Nat.le_of_ble_eq_true rfl) d_W_leastKey_48 (fun hl16 => ?_)
              refine v_nm (fun x17 ex17 => ?_)
              replace h := h x17 ex17
              have hx17 : zR x17 := by rw [ex17]; exact hl16
              refine v_istore_n (lv' := [(0, .ref (ad 15)), (1, .int (zI place)), (2, .int (zI x17)), (3, .int (zI y2)), (4, .int (zI x6)), (5, .int (zI y8))]) cx d_W_leastKey_51 rfl (by decide) rfl rfl ?_
              refine v_iinc (lv' := [(0, .ref (ad 15)), (1, .int (zI place)), (2, .int (zI x17)), (3, .int (zI y2)), (4, .int (zI x6)), (5, .int (zI (y8 + 1)))]) cx 5 d_W_leastKey_52 rfl (by decide) rfl rfl ?_
              refine v_goto cx 28 d_W_leastKey_55 (by decide) ?_
              obtain ⟨hI2, hz19, hm2⟩ := h
              exact ih28 _ _ _ (Nat.lt_of_lt_of_le hm2 (Nat.le_of_lt_succ hmm28)) hI2 hx17 hz19
        exact L28 _ _ _ _ (Nat.lt_succ_self _) h0 hy1 ⟨by decide, by decide⟩
  exact L5 _ _ _ _ (Nat.lt_succ_self _) h0 ⟨by decide, by decide⟩ ⟨by decide, by decide⟩
def q_W_left (place : Int) (K : Int → zS → Prop) (σ : zS) : Prop :=
  q_W_leastKey place (fun r2 σ1 =>
    (r2 ≠ 1000000000 →
      K (zShr r2 10) σ1) ∧ (r2 = 1000000000 →
      K (-1) σ1)) σ
abbrev rm_W_left : Room := { frames := 2, cells := 0, slots := 0, locals := 46 }
set_option maxRecDepth 20000 in
set_option maxHeartbeats 4000000 in
theorem s_W_left {Ω : zO} {ad : Nat → Nat} {place : Int} {K : Int → zS → Prop} {σ : zS} (hplace : zR place) (h : q_W_left place K σ) : zMi Ω y_W_left (.code y_W_left c_W_left 3 (some .int)) rm_W_left zLy ad [.ref (ad 15), .int (zI place)] σ K := by
  refine z_ofi (lv := [(0, .ref (ad 15)), (1, .int (zI place))]) (by decide) rfl (Nat.le_of_ble_eq_true rfl) ?_
  intro Γ Q cx rt
  unfold q_W_left at h
  refine v_aload_n cx 0 d_W_left_0 rfl rfl ?_
  refine v_iload_n cx 1 d_W_left_1 rfl rfl ?_
  refine v_callVi0 (st := []) cx (s_W_leastKey hplace h) yk_W_leastKey lk_W_182 zl_15 rfl rfl rfl (Nat.le_of_ble_eq_true rfl) ⟨Nat.le_of_ble_eq_true rfl, Nat.le_of_ble_eq_true rfl⟩ ⟨rfl, rfl⟩ ⟨(Nat.le_of_ble_eq_true rfl), (Nat.le_of_ble_eq_true rfl)⟩ d_W_left_2 (fun r2 σ1 hr2 h => ?_)
  refine v_istore_n (lv' := [(0, .ref (ad 15)), (1, .int (zI place)), (2, .int (zI r2))]) cx d_W_left_5 rfl (by decide) rfl rfl ?_
  refine v_iload_n cx 2 d_W_left_6 rfl rfl ?_
  refine v_ldc cx ct_W_176 d_W_left_7 ?_
  refine v_icmp_ne cx 16 d_W_left_9 (by decide) hr2 ⟨by decide, by decide⟩ (fun c3 => ?_) (fun c3 => ?_)
  · replace h := h.1 c3
    refine v_iload_n cx 2 d_W_left_16 rfl rfl ?_
    refine v_bipush cx (by decide) d_W_left_17 ?_
    refine v_ishr cx d_W_left_19 ?_
    exact rt _ _ _ _ _ _ (Nat.le_of_ble_eq_true rfl) (Nat.le_of_ble_eq_true rfl) d_W_left_20 (zR_shr _ _) h
  · replace h := h.2 c3
    refine v_iconst cx d_W_left_12 ?_
    refine v_goto cx 20 d_W_left_13 (by decide) ?_
    exact rt _ _ _ _ _ _ (Nat.le_of_ble_eq_true rfl) (Nat.le_of_ble_eq_true rfl) d_W_left_20 ⟨by decide, by decide⟩ h
def q_W_markUsed (K : zS → Prop) (σ : zS) : Prop :=
  q_J_fill2 20 81 0 (fun σ1 =>
    ∃ (I10 : Int → zS → Prop) (μ10 : Int → zS → Nat), (I10 0 σ1) ∧ ∀ (y2 : Int) (σ3 : zS), I10 y2 σ3 → zR y2 → 
    (4 ≤ y2 →
      K σ3) ∧ (y2 < 4 →
      ∃ (I17 : Int → zS → Prop) (μ17 : Int → zS → Nat), (I17 0 σ3) ∧ ∀ (y5 : Int) (σ6 : zS), I17 y5 σ6 → zR y5 → 
      q_L_roadSize y2 (fun r8 σ7 =>
        zR (y5 + 1) ∧ ((r8 ≤ (y5 + 1) →
            I10 (y2 + 1) σ7 ∧ zR (y2 + 1) ∧ μ10 (y2 + 1) σ7 < μ10 y2 σ3) ∧ ((y5 + 1) < r8 →
            q_L_roadHeading y2 y5 (fun r14 σ13 =>
              q_L_roadPlace y2 y5 (fun r16 σ15 =>
                (0 ≤ r16 ∧ r16 < 81) ∧ (∀ σ19 : zS, σ19 = zU σ15 20 r16 (zOr (σ15 20 r16) (zShl 1 r14)) → q_L_roadPlace y2 (y5 + 1) (fun r21 σ20 =>
                    (0 ≤ r21 ∧ r21 < 81) ∧ (q_R_opposite r14 (fun r25 σ24 =>
                        ∀ σ26 : zS, σ26 = zU σ24 20 r21 (zOr (σ20 20 r21) (zShl 1 r25)) → I17 (y5 + 1) σ26 ∧ μ17 (y5 + 1) σ26 < μ17 y5 σ6) σ20)) σ19)) σ13) σ7))) σ6)) σ
abbrev rm_W_markUsed : Room := { frames := 2, cells := 0, slots := 0, locals := 45 }
set_option maxRecDepth 20000 in
set_option maxHeartbeats 4000000 in
theorem s_W_markUsed {Ω : zO} {ad : Nat → Nat} {K : zS → Prop} {σ : zS}  (h : q_W_markUsed K σ) : zMv Ω y_W_markUsed (.code y_W_markUsed c_W_markUsed 4 none) rm_W_markUsed zLy ad [.ref (ad 15)] σ K := by
  refine z_ofv (lv := [(0, .ref (ad 15))]) (by decide) rfl (Nat.le_of_ble_eq_true rfl) ?_
  intro Γ Q cx rt
  unfold q_W_markUsed at h
  refine v_aload_n cx 0 d_W_markUsed_0 rfl rfl ?_
  refine gf_W_33 cx d_W_markUsed_1 ?_
  refine v_iconst cx d_W_markUsed_4 ?_
  refine v_callSv0 (st := []) cx (s_J_fill2 (o := 20) zl_20 (by decide) ⟨by decide, by decide⟩ h) yk_J_fill2 lk_W_132 rfl rfl (Nat.le_of_ble_eq_true rfl) ⟨Nat.le_of_ble_eq_true rfl, Nat.le_of_ble_eq_true rfl⟩ ⟨rfl, rfl⟩ ⟨Nat.le_of_ble_eq_true rfl, Nat.le_of_ble_eq_true rfl⟩ d_W_markUsed_5 (fun σ1 h => ?_)
  refine v_iconst cx d_W_markUsed_8 ?_
  refine v_istore_n (lv' := [(0, .ref (ad 15)), (1, .int (zI 0))]) cx d_W_markUsed_9 rfl (by decide) rfl rfl ?_
  obtain ⟨I10, μ10, h0, h⟩ := h
  have L10 : ∀ (N10 : Nat) (y2 : Int) (σ3 : zS), μ10 y2 σ3 < N10 → I10 y2 σ3 → zR y2 → zV Ω Γ rm_W_markUsed 4 Q 0 0 zLy ad σ3 10 [(0, .ref (ad 15)), (1, .int (zI y2))] [] := by
    intro N10
    induction N10 with
    | zero => intro y2 σ3 hm; exact absurd hm (Nat.not_lt_zero _)
    | succ N10 ih10 =>
      intro y2 σ3 hmm10 hI hy2
      replace h := h y2 σ3 hI hy2
      refine v_iload_n cx 1 d_W_markUsed_10 rfl rfl ?_
      refine v_iconst cx d_W_markUsed_11 ?_
      refine v_icmp_ge cx 98 d_W_markUsed_12 (by decide) hy2 ⟨by decide, by decide⟩ (fun c4 => ?_) (fun c4 => ?_)
      · replace h := h.1 c4
        exact rt _ _ _ _ _ (Nat.le_of_ble_eq_true rfl) (Nat.le_of_ble_eq_true rfl) d_W_markUsed_98 h
      · replace h := h.2 c4
        refine v_iconst cx d_W_markUsed_15 ?_
        refine v_istore_n (lv' := [(0, .ref (ad 15)), (1, .int (zI y2)), (2, .int (zI 0))]) cx d_W_markUsed_16 rfl (by decide) rfl rfl ?_
        obtain ⟨I17, μ17, h0, h⟩ := h
        have L17 : ∀ (N17 : Nat) (y5 : Int) (σ6 : zS), μ17 y5 σ6 < N17 → I17 y5 σ6 → zR y5 → zV Ω Γ rm_W_markUsed 4 Q 0 0 zLy ad σ6 17 [(0, .ref (ad 15)), (1, .int (zI y2)), (2, .int (zI y5))] [] := by
          intro N17
          induction N17 with
          | zero => intro y5 σ6 hm; exact absurd hm (Nat.not_lt_zero _)
          | succ N17 ih17 =>
            intro y5 σ6 hmm17 hI hy5
            replace h := h y5 σ6 hI hy5
            refine v_iload_n cx 2 d_W_markUsed_17 rfl rfl ?_
            refine v_iconst cx d_W_markUsed_18 ?_
            refine v_iadd cx d_W_markUsed_19 ?_
            refine v_aload_n cx 0 d_W_markUsed_20 rfl rfl ?_
            refine gf_W_9 cx d_W_markUsed_21 ?_
            refine v_iload_n cx 1 d_W_markUsed_24 rfl rfl ?_
            refine v_callVi0 (st := [.int (zI (y5 + 1))]) cx (s_L_roadSize hy2 h) yk_L_roadSize lk_W_138 zl_3 rfl rfl rfl (Nat.le_of_ble_eq_true rfl) ⟨Nat.le_of_ble_eq_true rfl, Nat.le_of_ble_eq_true rfl⟩ ⟨rfl, rfl⟩ ⟨(Nat.le_of_ble_eq_true rfl), (Nat.le_of_ble_eq_true rfl)⟩ d_W_markUsed_25 (fun r8 σ7 hr8 h => ?_)
            obtain ⟨hr9, h⟩ := h
            refine v_icmp_ge cx 92 d_W_markUsed_28 (by decide) hr9 hr8 (fun c10 => ?_) (fun c10 => ?_)
            · replace h := h.1 c10
              refine v_iinc (lv' := [(0, .ref (ad 15)), (1, .int (zI (y2 + 1))), (2, .int (zI y5))]) cx 1 d_W_markUsed_92 rfl (by decide) rfl rfl ?_
              refine v_goto cx 10 d_W_markUsed_95 (by decide) ?_
              refine v_sb (lv' := [(0, .ref (ad 15)), (1, .int (zI (y2 + 1)))]) [0, 1] rfl ?_
              obtain ⟨hI2, hz12, hm2⟩ := h
              exact ih10 _ _ (Nat.lt_of_lt_of_le hm2 (Nat.le_of_lt_succ hmm10)) hI2 hz12
            · replace h := h.2 c10
              refine v_aload_n cx 0 d_W_markUsed_31 rfl rfl ?_
              refine gf_W_9 cx d_W_markUsed_32 ?_
              refine v_iload_n cx 1 d_W_markUsed_35 rfl rfl ?_
              refine v_iload_n cx 2 d_W_markUsed_36 rfl rfl ?_
              refine v_callVi0 (st := []) cx (s_L_roadHeading hy2 hy5 h) yk_L_roadHeading lk_W_141 zl_3 rfl rfl rfl (Nat.le_of_ble_eq_true rfl) ⟨Nat.le_of_ble_eq_true rfl, Nat.le_of_ble_eq_true rfl⟩ ⟨rfl, rfl⟩ ⟨(Nat.le_of_ble_eq_true rfl), (Nat.le_of_ble_eq_true rfl)⟩ d_W_markUsed_37 (fun r14 σ13 hr14 h => ?_)
              refine v_istore_n (lv' := [(0, .ref (ad 15)), (1, .int (zI y2)), (2, .int (zI y5)), (3, .int (zI r14))]) cx d_W_markUsed_40 rfl (by decide) rfl rfl ?_
              refine v_aload_n cx 0 d_W_markUsed_41 rfl rfl ?_
              refine gf_W_33 cx d_W_markUsed_42 ?_
              refine v_aload_n cx 0 d_W_markUsed_45 rfl rfl ?_
              refine gf_W_9 cx d_W_markUsed_46 ?_
              refine v_iload_n cx 1 d_W_markUsed_49 rfl rfl ?_
              refine v_iload_n cx 2 d_W_markUsed_50 rfl rfl ?_
              refine v_callVi0 (st := [.ref (ad 20)]) cx (s_L_roadPlace hy2 hy5 h) yk_L_roadPlace lk_W_144 zl_3 rfl rfl rfl (Nat.le_of_ble_eq_true rfl) ⟨Nat.le_of_ble_eq_true rfl, Nat.le_of_ble_eq_true rfl⟩ ⟨rfl, rfl⟩ ⟨(Nat.le_of_ble_eq_true rfl), (Nat.le_of_ble_eq_true rfl)⟩ d_W_markUsed_51 (fun r16 σ15 hr16 h => ?_)
              refine v_dup2 cx d_W_markUsed_54 rfl rfl ?_
              obtain ⟨hb17, h⟩ := h
              refine v_iald cx zl_20 (by decide) hb17.1 hb17.2 d_W_markUsed_55 (fun hl18 => ?_)
              refine v_iconst cx d_W_markUsed_56 ?_
              refine v_iload_n cx 3 d_W_markUsed_57 rfl rfl ?_
              refine v_ishl cx d_W_markUsed_58 ?_
              refine v_ior cx d_W_markUsed_59 ?_
              refine v_iast cx zl_20 (by decide) hb17.1 hb17.2 (zR_or _ _) d_W_markUsed_60 ?_
              refine v_ns (fun σ19 eσ19 => ?_)
              replace h := h σ19 eσ19
              refine v_aload_n cx 0 d_W_markUsed_61 rfl rfl ?_
              refine gf_W_33 cx d_W_markUsed_62 ?_
              refine v_aload_n cx 0 d_W_markUsed_65 rfl rfl ?_
              refine gf_W_9 cx d_W_markUsed_66 ?_
              refine v_iload_n cx 1 d_W_markUsed_69 rfl rfl ?_
              refine v_iload_n cx 2 d_W_markUsed_70 rfl rfl ?_
              refine v_iconst cx d_W_markUsed_71 ?_
              refine v_iadd cx d_W_markUsed_72 ?_
              refine v_callVi0 (st := [.ref (ad 20)]) cx (s_L_roadPlace hy2 hr9 h) yk_L_roadPlace lk_W_144 zl_3 rfl rfl rfl (Nat.le_of_ble_eq_true rfl) ⟨Nat.le_of_ble_eq_true rfl, Nat.le_of_ble_eq_true rfl⟩ ⟨rfl, rfl⟩ ⟨(Nat.le_of_ble_eq_true rfl), (Nat.le_of_ble_eq_true rfl)⟩ d_W_markUsed_73 (fun r21 σ20 hr21 h => ?_)
              refine v_dup2 cx d_W_markUsed_76 rfl rfl ?_
              obtain ⟨hb22, h⟩ := h
              refine v_iald cx zl_20 (by decide) hb22.1 hb22.2 d_W_markUsed_77 (fun hl23 => ?_)
              refine v_iconst cx d_W_markUsed_78 ?_
              refine v_iload_n cx 3 d_W_markUsed_79 rfl rfl ?_
              refine v_callNi0 (st := [.int (zI 1), .int (zI (σ20 20 r21)), .int (zI r21), .ref (ad 20)]) cx (s_R_opposite hr14 h) yk_R_opposite ln_W_147 rfl rfl (Nat.le_of_ble_eq_true rfl) ⟨Nat.le_of_ble_eq_true rfl, Nat.le_of_ble_eq_true rfl⟩ ⟨rfl, rfl⟩ ⟨(Nat.le_of_ble_eq_true rfl), (Nat.le_of_ble_eq_true rfl)⟩ d_W_markUsed_80 (fun r25 σ24 hr25 h => ?_)
              refine v_ishl cx d_W_markUsed_83 ?_
              refine v_ior cx d_W_markUsed_84 ?_
              refine v_iast cx zl_20 (by decide) hb22.1 hb22.2 (zR_or _ _) d_W_markUsed_85 ?_
              refine v_ns (fun σ26 eσ26 => ?_)
              replace h := h σ26 eσ26
              refine v_iinc (lv' := [(0, .ref (ad 15)), (1, .int (zI y2)), (2, .int (zI (y5 + 1))), (3, .int (zI r14))]) cx 2 d_W_markUsed_86 rfl (by decide) rfl rfl ?_
              refine v_goto cx 17 d_W_markUsed_89 (by decide) ?_
              refine v_sb (lv' := [(0, .ref (ad 15)), (1, .int (zI y2)), (2, .int (zI (y5 + 1)))]) [0, 1, 2] rfl ?_
              obtain ⟨hI2, hm2⟩ := h
              exact ih17 _ _ (Nat.lt_of_lt_of_le hm2 (Nat.le_of_lt_succ hmm17)) hI2 hr9
        exact L17 _ _ _ (Nat.lt_succ_self _) h0 ⟨by decide, by decide⟩
  exact L10 _ _ _ (Nat.lt_succ_self _) h0 ⟨by decide, by decide⟩
theorem zto_W_amount_61 {a : Int} (h0 : a ≠ 1) (h1 : a ≠ 2) (h2 : a ≠ 3) (h3 : a ≠ 4) (h4 : a ≠ 5) : a < 1 ∨ 5 < a := by omega
def q_W_amount (place : Int) (heading : Int) (kind : Int) (K : Int → zS → Prop) (σ : zS) : Prop :=
  q_L_besideOf place heading (fun r2 σ1 =>
    q_L_height r2 (fun r4 σ3 =>
      q_L_height place (fun r6 σ5 =>
        ∀ x7 : Int, x7 = r4 - r6 → q_R_longOf heading (fun r9 σ8 =>
          q_L_value 3 (fun r11 σ10 =>
            ∃ J56 : Int → Prop, (∀ (w12 : Int), J56 w12 → zR w12 → 
              ∀ x13 : Int, x13 = r9 + (r11 * w12) → (kind = 1 →
                q_R_longOf heading (fun r16 σ15 =>
                  K r16 σ15) σ10) ∧ (kind = 2 →
                zR x7 ∧ ((0 ≤ x7 →
                    K x7 σ10) ∧ (x7 < 0 →
                    K 0 σ10))) ∧ (kind = 3 →
                K 1 σ10) ∧ (kind = 4 →
                (0 ≤ place ∧ place < 81) ∧ (K (zShr x13 (zAnd (zShr (σ10 20 place) heading) 1)) σ10)) ∧ (kind = 5 →
                q_S_catchOf r2 (fun r26 σ25 =>
                  zR (x13 + r26) ∧ (K (x13 + r26) σ25)) σ10) ∧ (kind ≠ 1 ∧ kind ≠ 2 ∧ kind ≠ 3 ∧ kind ≠ 4 ∧ kind ≠ 5 →
                zR x13 ∧ (K x13 σ10))) ∧
            (zR x7 ∧ ((0 ≤ x7 →
                  J56 x7) ∧ (x7 < 0 →
                  J56 (-x7) ∧ zR (-x7))))) σ8) σ5) σ3) σ1) σ
abbrev rm_W_amount : Room := { frames := 1, cells := 0, slots := 0, locals := 22 }
set_option maxRecDepth 20000 in
set_option maxHeartbeats 4000000 in
theorem s_W_amount {Ω : zO} {ad : Nat → Nat} {place : Int} {heading : Int} {kind : Int} {K : Int → zS → Prop} {σ : zS} (hplace : zR place) (hheading : zR heading) (hkind : zR kind) (h : q_W_amount place heading kind K σ) : zMi Ω y_W_amount (.code y_W_amount c_W_amount 7 (some .int)) rm_W_amount zLy ad [.ref (ad 15), .int (zI place), .int (zI heading), .int (zI kind)] σ K := by
  refine z_ofi (lv := [(0, .ref (ad 15)), (1, .int (zI place)), (2, .int (zI heading)), (3, .int (zI kind))]) (by decide) rfl (Nat.le_of_ble_eq_true rfl) ?_
  intro Γ Q cx rt
  unfold q_W_amount at h
  refine v_aload_n cx 0 d_W_amount_0 rfl rfl ?_
  refine gf_W_9 cx d_W_amount_1 ?_
  refine v_iload_n cx 1 d_W_amount_4 rfl rfl ?_
  refine v_iload_n cx 2 d_W_amount_5 rfl rfl ?_
  refine v_callVi0 (st := []) cx (s_L_besideOf hplace hheading h) yk_L_besideOf lk_W_119 zl_3 rfl rfl rfl (Nat.le_of_ble_eq_true rfl) ⟨Nat.le_of_ble_eq_true rfl, Nat.le_of_ble_eq_true rfl⟩ ⟨rfl, rfl⟩ ⟨(Nat.le_of_ble_eq_true rfl), (Nat.le_of_ble_eq_true rfl)⟩ d_W_amount_6 (fun r2 σ1 hr2 h => ?_)
  refine v_istore (lv' := [(0, .ref (ad 15)), (1, .int (zI place)), (2, .int (zI heading)), (3, .int (zI kind)), (4, .int (zI r2))]) cx d_W_amount_9 (by decide) rfl rfl ?_
  refine v_aload_n cx 0 d_W_amount_11 rfl rfl ?_
  refine gf_W_9 cx d_W_amount_12 ?_
  refine v_iload cx 4 d_W_amount_15 rfl ?_
  refine v_callVi0 (st := []) cx (s_L_height hr2 h) yk_L_height lk_W_123 zl_3 rfl rfl rfl (Nat.le_of_ble_eq_true rfl) ⟨Nat.le_of_ble_eq_true rfl, Nat.le_of_ble_eq_true rfl⟩ ⟨rfl, rfl⟩ ⟨(Nat.le_of_ble_eq_true rfl), (Nat.le_of_ble_eq_true rfl)⟩ d_W_amount_17 (fun r4 σ3 hr4 h => ?_)
  refine v_aload_n cx 0 d_W_amount_20 rfl rfl ?_
  refine gf_W_9 cx d_W_amount_21 ?_
  refine v_iload_n cx 1 d_W_amount_24 rfl rfl ?_
  refine v_callVi0 (st := [.int (zI r4)]) cx (s_L_height hplace h) yk_L_height lk_W_123 zl_3 rfl rfl rfl (Nat.le_of_ble_eq_true rfl) ⟨Nat.le_of_ble_eq_true rfl, Nat.le_of_ble_eq_true rfl⟩ ⟨rfl, rfl⟩ ⟨(Nat.le_of_ble_eq_true rfl), (Nat.le_of_ble_eq_true rfl)⟩ d_W_amount_25 (fun r6 σ5 hr6 h => ?_)
  refine v_isub cx d_W_amount_28 ?_
  refine v_nm (fun x7 ex7 => ?_)
  replace h := h x7 ex7
  refine v_istore (lv' := [(0, .ref (ad 15)), (1, .int (zI place)), (2, .int (zI heading)), (3, .int (zI kind)), (4, .int (zI r2)), (5, .int (zI x7))]) cx d_W_amount_29 (by decide) rfl rfl ?_
  refine v_iload_n cx 2 d_W_amount_31 rfl rfl ?_
  refine v_callNi0 (st := []) cx (s_R_longOf hheading h) yk_R_longOf ln_W_126 rfl rfl (Nat.le_of_ble_eq_true rfl) ⟨Nat.le_of_ble_eq_true rfl, Nat.le_of_ble_eq_true rfl⟩ ⟨rfl, rfl⟩ ⟨(Nat.le_of_ble_eq_true rfl), (Nat.le_of_ble_eq_true rfl)⟩ d_W_amount_32 (fun r9 σ8 hr9 h => ?_)
  refine v_aload_n cx 0 d_W_amount_35 rfl rfl ?_
  refine gf_W_9 cx d_W_amount_36 ?_
  refine v_iconst cx d_W_amount_39 ?_
  refine v_callVi0 (st := [.int (zI r9)]) cx (s_L_value ⟨by decide, by decide⟩ h) yk_L_value lk_W_61 zl_3 rfl rfl rfl (Nat.le_of_ble_eq_true rfl) ⟨Nat.le_of_ble_eq_true rfl, Nat.le_of_ble_eq_true rfl⟩ ⟨rfl, rfl⟩ ⟨(Nat.le_of_ble_eq_true rfl), (Nat.le_of_ble_eq_true rfl)⟩ d_W_amount_40 (fun r11 σ10 hr11 h => ?_)
  refine v_iload cx 5 d_W_amount_43 rfl ?_
  obtain ⟨J56, hJ56, h⟩ := h
  have G56 : ∀ (w12 : Int), J56 w12 → zR w12 → zV Ω Γ rm_W_amount 7 Q 0 0 zLy ad σ10 56 [(0, .ref (ad 15)), (1, .int (zI place)), (2, .int (zI heading)), (3, .int (zI kind)), (4, .int (zI r2)), (5, .int (zI x7))] [.int (zI w12), .int (zI r11), .int (zI r9)] := by
    intro w12 hJ hw12
    replace h := hJ56 w12 hJ hw12
    refine v_imul cx d_W_amount_56 ?_
    refine v_iadd cx d_W_amount_57 ?_
    refine v_nm (fun x13 ex13 => ?_)
    replace h := h x13 ex13
    refine v_istore (lv' := [(0, .ref (ad 15)), (1, .int (zI place)), (2, .int (zI heading)), (3, .int (zI kind)), (4, .int (zI r2)), (5, .int (zI x7)), (6, .int (zI x13))]) cx d_W_amount_58 (by decide) rfl rfl ?_
    refine v_iload_n cx 3 d_W_amount_60 rfl rfl ?_
    by_cases c14 : kind = 1
    · replace h := h.1 c14
      refine v_tableIn cx 96 d_W_amount_61 hkind (by rw [c14]; decide) (by rw [c14]; decide) (by rw [c14]; rfl) (by decide) ?_
      refine v_iload_n cx 2 d_W_amount_96 rfl rfl ?_
      refine v_callNi0 (st := []) cx (s_R_longOf hheading h) yk_R_longOf ln_W_126 rfl rfl (Nat.le_of_ble_eq_true rfl) ⟨Nat.le_of_ble_eq_true rfl, Nat.le_of_ble_eq_true rfl⟩ ⟨rfl, rfl⟩ ⟨(Nat.le_of_ble_eq_true rfl), (Nat.le_of_ble_eq_true rfl)⟩ d_W_amount_97 (fun r16 σ15 hr16 h => ?_)
      exact rt _ _ _ _ _ _ (Nat.le_of_ble_eq_true rfl) (Nat.le_of_ble_eq_true rfl) d_W_amount_100 hr16 h
    replace h := h.2
    by_cases c17 : kind = 2
    · replace h := h.1 c17
      refine v_tableIn cx 101 d_W_amount_61 hkind (by rw [c17]; decide) (by rw [c17]; decide) (by rw [c17]; rfl) (by decide) ?_
      refine v_iload cx 5 d_W_amount_101 rfl ?_
      obtain ⟨hr18, h⟩ := h
      refine v_if_ge cx 110 d_W_amount_103 (by decide) hr18 (fun c19 => ?_) (fun c19 => ?_)
      · replace h := h.1 c19
        refine v_iload cx 5 d_W_amount_110 rfl ?_
        exact rt _ _ _ _ _ _ (Nat.le_of_ble_eq_true rfl) (Nat.le_of_ble_eq_true rfl) d_W_amount_112 hr18 h
      · replace h := h.2 c19
        refine v_iconst cx d_W_amount_106 ?_
        refine v_goto cx 112 d_W_amount_107 (by decide) ?_
        exact rt _ _ _ _ _ _ (Nat.le_of_ble_eq_true rfl) (Nat.le_of_ble_eq_true rfl) d_W_amount_112 ⟨by decide, by decide⟩ h
    replace h := h.2
    by_cases c20 : kind = 3
    · replace h := h.1 c20
      refine v_tableIn cx 113 d_W_amount_61 hkind (by rw [c20]; decide) (by rw [c20]; decide) (by rw [c20]; rfl) (by decide) ?_
      refine v_iconst cx d_W_amount_113 ?_
      exact rt _ _ _ _ _ _ (Nat.le_of_ble_eq_true rfl) (Nat.le_of_ble_eq_true rfl) d_W_amount_114 ⟨by decide, by decide⟩ h
    replace h := h.2
    by_cases c21 : kind = 4
    · replace h := h.1 c21
      refine v_tableIn cx 115 d_W_amount_61 hkind (by rw [c21]; decide) (by rw [c21]; decide) (by rw [c21]; rfl) (by decide) ?_
      refine v_iload cx 6 d_W_amount_115 rfl ?_
      refine v_aload_n cx 0 d_W_amount_117 rfl rfl ?_
      refine gf_W_33 cx d_W_amount_118 ?_
      refine v_iload_n cx 1 d_W_amount_121 rfl rfl ?_
      obtain ⟨hb22, h⟩ := h
      refine v_iald cx zl_20 (by decide) hb22.1 hb22.2 d_W_amount_122 (fun hl23 => ?_)
      refine v_iload_n cx 2 d_W_amount_123 rfl rfl ?_
      refine v_ishr cx d_W_amount_124 ?_
      refine v_iconst cx d_W_amount_125 ?_
      refine v_iand cx d_W_amount_126 ?_
      refine v_ishr cx d_W_amount_127 ?_
      exact rt _ _ _ _ _ _ (Nat.le_of_ble_eq_true rfl) (Nat.le_of_ble_eq_true rfl) d_W_amount_128 (zR_shr _ _) h
    replace h := h.2
    by_cases c24 : kind = 5
    · replace h := h.1 c24
      refine v_tableIn cx 129 d_W_amount_61 hkind (by rw [c24]; decide) (by rw [c24]; decide) (by rw [c24]; rfl) (by decide) ?_
      refine v_iload cx 6 d_W_amount_129 rfl ?_
      refine v_aload_n cx 0 d_W_amount_131 rfl rfl ?_
      refine gf_W_15 cx d_W_amount_132 ?_
      refine v_iload cx 4 d_W_amount_135 rfl ?_
      refine v_callVi0 (st := [.int (zI x13)]) cx (s_S_catchOf hr2 h) yk_S_catchOf lk_W_129 zl_11 rfl rfl rfl (Nat.le_of_ble_eq_true rfl) ⟨Nat.le_of_ble_eq_true rfl, Nat.le_of_ble_eq_true rfl⟩ ⟨rfl, rfl⟩ ⟨(Nat.le_of_ble_eq_true rfl), (Nat.le_of_ble_eq_true rfl)⟩ d_W_amount_137 (fun r26 σ25 hr26 h => ?_)
      refine v_iadd cx d_W_amount_140 ?_
      obtain ⟨hr27, h⟩ := h
      exact rt _ _ _ _ _ _ (Nat.le_of_ble_eq_true rfl) (Nat.le_of_ble_eq_true rfl) d_W_amount_141 hr27 h
    replace h := h.2
    replace h := h ⟨c14, c17, c20, c21, c24⟩
    refine v_tableOut cx 142 d_W_amount_61 hkind (zto_W_amount_61 c14 c17 c20 c21 c24) (by decide) ?_
    refine v_iload cx 6 d_W_amount_142 rfl ?_
    obtain ⟨hr28, h⟩ := h
    exact rt _ _ _ _ _ _ (Nat.le_of_ble_eq_true rfl) (Nat.le_of_ble_eq_true rfl) d_W_amount_144 hr28 h
  obtain ⟨hr29, h⟩ := h
  refine v_if_ge cx 54 d_W_amount_45 (by decide) hr29 (fun c30 => ?_) (fun c30 => ?_)
  · replace h := h.1 c30
    refine v_iload cx 5 d_W_amount_54 rfl ?_
    have hJ2 := h
    exact G56 _ hJ2 hr29
  · replace h := h.2 c30
    refine v_iload cx 5 d_W_amount_48 rfl ?_
    refine v_ineg cx d_W_amount_50 ?_
    refine v_goto cx 56 d_W_amount_51 (by decide) ?_
    obtain ⟨hJ2, hz31⟩ := h
    exact G56 _ hJ2 hz31
def q_W_weigh (place : Int) (heading : Int) (kind : Int) (grade : Int) (boring : Int) (K : zS → Prop) (σ : zS) : Prop :=
  ∀ x1 : Int, x1 = (place * 8) + heading → (0 ≤ x1 ∧ x1 < 648) ∧ (∀ σ3 : zS, σ3 = zU σ 16 x1 (-1) → ∀ σ4 : zS, σ4 = zU σ3 17 x1 0 → q_L_isOpen place heading (fun r6 σ5 =>
      (r6 ≠ 0 →
        q_L_isSteep place heading grade (fun r9 σ8 =>
          ∃ J65 : zS → Prop, (∀ (σ10 : zS), J65 σ10 → 
            q_W_amount place heading kind (fun r12 σ11 =>
              q_L_value 6 (fun r15 σ14 =>
                ∀ x16 : Int, x16 = r12 + ((σ11 17 x1) * r15) → (boring = 0 →
                  zR ((zShl x16 10) + 1) ∧ (∀ σ19 : zS, σ19 = zU σ14 16 x1 ((zShl x16 10) + 1) → K σ19)) ∧ (boring ≠ 0 →
                  zR ((zShl x16 10) + 0) ∧ (∀ σ21 : zS, σ21 = zU σ14 16 x1 ((zShl x16 10) + 0) → K σ21))) σ11) σ10) ∧
          ((r9 = 0 →
              J65 σ8) ∧ (r9 ≠ 0 →
              ∀ σ23 : zS, σ23 = zU σ8 17 x1 1 → (boring ≠ 0 →
                J65 σ23) ∧ (boring = 0 →
                K σ23)))) σ5) ∧ (r6 = 0 →
        K σ5)) σ4)
abbrev rm_W_weigh : Room := { frames := 2, cells := 0, slots := 0, locals := 48 }
set_option maxRecDepth 20000 in
set_option maxHeartbeats 4000000 in
theorem s_W_weigh {Ω : zO} {ad : Nat → Nat} {place : Int} {heading : Int} {kind : Int} {grade : Int} {boring : Int} {K : zS → Prop} {σ : zS} (hplace : zR place) (hheading : zR heading) (hkind : zR kind) (hgrade : zR grade) (hboring : boring = 0 ∨ boring = 1) (h : q_W_weigh place heading kind grade boring K σ) : zMv Ω y_W_weigh (.code y_W_weigh c_W_weigh 8 none) rm_W_weigh zLy ad [.ref (ad 15), .int (zI place), .int (zI heading), .int (zI kind), .int (zI grade), .int (zI boring)] σ K := by
  refine z_ofv (lv := [(0, .ref (ad 15)), (1, .int (zI place)), (2, .int (zI heading)), (3, .int (zI kind)), (4, .int (zI grade)), (5, .int (zI boring))]) (by decide) rfl (Nat.le_of_ble_eq_true rfl) ?_
  intro Γ Q cx rt
  unfold q_W_weigh at h
  refine v_iload_n cx 1 d_W_weigh_0 rfl rfl ?_
  refine v_bipush cx (by decide) d_W_weigh_1 ?_
  refine v_imul cx d_W_weigh_3 ?_
  refine v_iload_n cx 2 d_W_weigh_4 rfl rfl ?_
  refine v_iadd cx d_W_weigh_5 ?_
  refine v_nm (fun x1 ex1 => ?_)
  replace h := h x1 ex1
  refine v_istore (lv' := [(0, .ref (ad 15)), (1, .int (zI place)), (2, .int (zI heading)), (3, .int (zI kind)), (4, .int (zI grade)), (5, .int (zI boring)), (6, .int (zI x1))]) cx d_W_weigh_6 (by decide) rfl rfl ?_
  refine v_aload_n cx 0 d_W_weigh_8 rfl rfl ?_
  refine gf_W_19 cx d_W_weigh_9 ?_
  refine v_iload cx 6 d_W_weigh_12 rfl ?_
  refine v_iconst cx d_W_weigh_14 ?_
  obtain ⟨hb2, h⟩ := h
  refine v_iast cx zl_16 (by decide) hb2.1 hb2.2 ⟨by decide, by decide⟩ d_W_weigh_15 ?_
  refine v_ns (fun σ3 eσ3 => ?_)
  replace h := h σ3 eσ3
  refine v_aload_n cx 0 d_W_weigh_16 rfl rfl ?_
  refine gf_W_23 cx d_W_weigh_17 ?_
  refine v_iload cx 6 d_W_weigh_20 rfl ?_
  refine v_iconst cx d_W_weigh_22 ?_
  refine v_iast cx zl_17 (by decide) hb2.1 hb2.2 ⟨by decide, by decide⟩ d_W_weigh_23 ?_
  refine v_ns (fun σ4 eσ4 => ?_)
  replace h := h σ4 eσ4
  refine v_aload_n cx 0 d_W_weigh_24 rfl rfl ?_
  refine gf_W_9 cx d_W_weigh_25 ?_
  refine v_iload_n cx 1 d_W_weigh_28 rfl rfl ?_
  refine v_iload_n cx 2 d_W_weigh_29 rfl rfl ?_
  refine v_callVz0 (st := []) cx (s_L_isOpen hplace hheading h) yk_L_isOpen lk_W_107 zl_3 rfl rfl rfl (Nat.le_of_ble_eq_true rfl) ⟨Nat.le_of_ble_eq_true rfl, Nat.le_of_ble_eq_true rfl⟩ ⟨rfl, rfl⟩ ⟨(Nat.le_of_ble_eq_true rfl), (Nat.le_of_ble_eq_true rfl)⟩ d_W_weigh_30 (fun r6 σ5 hr6 h => ?_)
  refine v_if_ne cx 37 d_W_weigh_33 (by decide) (zR_b hr6) (fun c7 => ?_) (fun c7 => ?_)
  · replace h := h.1 c7
    refine v_aload_n cx 0 d_W_weigh_37 rfl rfl ?_
    refine gf_W_9 cx d_W_weigh_38 ?_
    refine v_iload_n cx 1 d_W_weigh_41 rfl rfl ?_
    refine v_iload_n cx 2 d_W_weigh_42 rfl rfl ?_
    refine v_iload cx 4 d_W_weigh_43 rfl ?_
    refine v_callVz0 (st := []) cx (s_L_isSteep hplace hheading hgrade h) yk_L_isSteep lk_W_111 zl_3 rfl rfl rfl (Nat.le_of_ble_eq_true rfl) ⟨Nat.le_of_ble_eq_true rfl, Nat.le_of_ble_eq_true rfl⟩ ⟨rfl, rfl⟩ ⟨(Nat.le_of_ble_eq_true rfl), (Nat.le_of_ble_eq_true rfl)⟩ d_W_weigh_45 (fun r9 σ8 hr9 h => ?_)
    obtain ⟨J65, hJ65, h⟩ := h
    have G65 : ∀ (σ10 : zS), J65 σ10 → zV Ω Γ rm_W_weigh 8 Q 0 0 zLy ad σ10 65 [(0, .ref (ad 15)), (1, .int (zI place)), (2, .int (zI heading)), (3, .int (zI kind)), (5, .int (zI boring)), (6, .int (zI x1))] [] := by
      intro σ10 hJ 
      replace h := hJ65 σ10 hJ 
      refine v_aload_n cx 0 d_W_weigh_65 rfl rfl ?_
      refine v_iload_n cx 1 d_W_weigh_66 rfl rfl ?_
      refine v_iload_n cx 2 d_W_weigh_67 rfl rfl ?_
      refine v_iload_n cx 3 d_W_weigh_68 rfl rfl ?_
      refine v_callVi0 (st := []) cx (s_W_amount hplace hheading hkind h) yk_W_amount lk_W_115 zl_15 rfl rfl rfl (Nat.le_of_ble_eq_true rfl) ⟨Nat.le_of_ble_eq_true rfl, Nat.le_of_ble_eq_true rfl⟩ ⟨rfl, rfl⟩ ⟨(Nat.le_of_ble_eq_true rfl), (Nat.le_of_ble_eq_true rfl)⟩ d_W_weigh_69 (fun r12 σ11 hr12 h => ?_)
      refine v_aload_n cx 0 d_W_weigh_72 rfl rfl ?_
      refine gf_W_23 cx d_W_weigh_73 ?_
      refine v_iload cx 5 d_W_weigh_76 rfl ?_
      refine v_iald cx zl_17 (by decide) hb2.1 hb2.2 d_W_weigh_78 (fun hl13 => ?_)
      refine v_aload_n cx 0 d_W_weigh_79 rfl rfl ?_
      refine gf_W_9 cx d_W_weigh_80 ?_
      refine v_bipush cx (by decide) d_W_weigh_83 ?_
      refine v_callVi0 (st := [.int (zI (σ11 17 x1)), .int (zI r12)]) cx (s_L_value ⟨by decide, by decide⟩ h) yk_L_value lk_W_61 zl_3 rfl rfl rfl (Nat.le_of_ble_eq_true rfl) ⟨Nat.le_of_ble_eq_true rfl, Nat.le_of_ble_eq_true rfl⟩ ⟨rfl, rfl⟩ ⟨(Nat.le_of_ble_eq_true rfl), (Nat.le_of_ble_eq_true rfl)⟩ d_W_weigh_85 (fun r15 σ14 hr15 h => ?_)
      refine v_imul cx d_W_weigh_88 ?_
      refine v_iadd cx d_W_weigh_89 ?_
      refine v_nm (fun x16 ex16 => ?_)
      replace h := h x16 ex16
      refine v_istore (lv' := [(0, .ref (ad 15)), (1, .int (zI place)), (2, .int (zI heading)), (3, .int (zI kind)), (5, .int (zI boring)), (6, .int (zI x1)), (7, .int (zI x16))]) cx d_W_weigh_90 (by decide) rfl rfl ?_
      refine v_aload_n cx 0 d_W_weigh_92 rfl rfl ?_
      refine gf_W_19 cx d_W_weigh_93 ?_
      refine v_iload cx 5 d_W_weigh_96 rfl ?_
      refine v_iload cx 6 d_W_weigh_98 rfl ?_
      refine v_bipush cx (by decide) d_W_weigh_100 ?_
      refine v_ishl cx d_W_weigh_102 ?_
      refine v_iload cx 4 d_W_weigh_103 rfl ?_
      refine v_if_eq cx 112 d_W_weigh_105 (by decide) (zR_b hboring) (fun c17 => ?_) (fun c17 => ?_)
      · replace h := h.1 c17
        refine v_iconst cx d_W_weigh_112 ?_
        refine v_iadd cx d_W_weigh_113 ?_
        obtain ⟨hr18, h⟩ := h
        refine v_iast cx zl_16 (by decide) hb2.1 hb2.2 hr18 d_W_weigh_114 ?_
        refine v_ns (fun σ19 eσ19 => ?_)
        replace h := h σ19 eσ19
        exact rt _ _ _ _ _ (Nat.le_of_ble_eq_true rfl) (Nat.le_of_ble_eq_true rfl) d_W_weigh_115 h
      · replace h := h.2 c17
        refine v_iconst cx d_W_weigh_108 ?_
        refine v_goto cx 113 d_W_weigh_109 (by decide) ?_
        refine v_iadd cx d_W_weigh_113 ?_
        obtain ⟨hr20, h⟩ := h
        refine v_iast cx zl_16 (by decide) hb2.1 hb2.2 hr20 d_W_weigh_114 ?_
        refine v_ns (fun σ21 eσ21 => ?_)
        replace h := h σ21 eσ21
        exact rt _ _ _ _ _ (Nat.le_of_ble_eq_true rfl) (Nat.le_of_ble_eq_true rfl) d_W_weigh_115 h
    refine v_if_eq cx 65 d_W_weigh_48 (by decide) (zR_b hr9) (fun c22 => ?_) (fun c22 => ?_)
    · replace h := h.1 c22
      refine v_sb (lv' := [(0, .ref (ad 15)), (1, .int (zI place)), (2, .int (zI heading)), (3, .int (zI kind)), (5, .int (zI boring)), (6, .int (zI x1))]) [0, 1, 2, 3, 5, 6] rfl ?_
      have hJ2 := h
      exact G65 _ hJ2 
    · replace h := h.2 c22
      refine v_aload_n cx 0 d_W_weigh_51 rfl rfl ?_
      refine gf_W_23 cx d_W_weigh_52 ?_
      refine v_iload cx 6 d_W_weigh_55 rfl ?_
      refine v_iconst cx d_W_weigh_57 ?_
      refine v_iast cx zl_17 (by decide) hb2.1 hb2.2 ⟨by decide, by decide⟩ d_W_weigh_58 ?_
      refine v_ns (fun σ23 eσ23 => ?_)
      replace h := h σ23 eσ23
      refine v_iload cx 5 d_W_weigh_59 rfl ?_
      refine v_if_ne cx 65 d_W_weigh_61 (by decide) (zR_b hboring) (fun c24 => ?_) (fun c24 => ?_)
      · replace h := h.1 c24
        refine v_sb (lv' := [(0, .ref (ad 15)), (1, .int (zI place)), (2, .int (zI heading)), (3, .int (zI kind)), (5, .int (zI boring)), (6, .int (zI x1))]) [0, 1, 2, 3, 5, 6] rfl ?_
        have hJ2 := h
        exact G65 _ hJ2 
      · replace h := h.2 c24
        exact rt _ _ _ _ _ (Nat.le_of_ble_eq_true rfl) (Nat.le_of_ble_eq_true rfl) d_W_weigh_64 h
  · replace h := h.2 c7
    exact rt _ _ _ _ _ (Nat.le_of_ble_eq_true rfl) (Nat.le_of_ble_eq_true rfl) d_W_weigh_36 h
def q_W_prepare (kind : Int) (grade : Int) (boring : Int) (K : zS → Prop) (σ : zS) : Prop :=
  ∃ J19 : Int → Prop, (∀ (w1 : Int), J19 w1 → zR w1 → 
    ∀ σ2 : zS, σ2 = zU σ 15 12 1 → q_L_value 1 (fun r4 σ3 =>
      ∀ σ5 : zS, σ5 = zU σ3 15 11 r4 → ∃ (I41 : Int → zS → Prop) (μ41 : Int → zS → Nat), (I41 0 σ5) ∧ ∀ (y6 : Int) (σ7 : zS), I41 y6 σ7 → zR y6 → 
      (4 < y6 →
        ∃ J90 : zS → Prop, (∀ (σ9 : zS), J90 σ9 → 
          (kind ≠ 5 →
            ∃ (I105 : Int → zS → Prop) (μ105 : Int → zS → Nat), (I105 0 σ9) ∧ ∀ (y11 : Int) (σ12 : zS), I105 y11 σ12 → zR y11 → 
            q_L_places (fun r14 σ13 =>
              (r14 ≤ y11 →
                K σ13) ∧ (y11 < r14 →
                q_L_isFlat y11 (fun r17 σ16 =>
                  (0 ≤ y11 ∧ y11 < 81) ∧ (∀ σ19 : zS, σ19 = zU σ16 18 y11 r17 → ∃ (I136 : Int → zS → Prop) (μ136 : Int → zS → Nat), (I136 0 σ19) ∧ ∀ (y20 : Int) (σ21 : zS), I136 y20 σ21 → zR y20 → 
                    (8 ≤ y20 →
                      I105 (y11 + 1) σ21 ∧ zR (y11 + 1) ∧ μ105 (y11 + 1) σ21 < μ105 y11 σ12) ∧ (y20 < 8 →
                      q_W_weigh y11 y20 kind grade boring (fun σ25 =>
                        I136 (y20 + 1) σ25 ∧ zR (y20 + 1) ∧ μ136 (y20 + 1) σ25 < μ136 y20 σ21) σ21))) σ13)) σ12) ∧ (kind = 5 →
            q_S_gather (fun σ28 =>
              ∃ (I105 : Int → zS → Prop) (μ105 : Int → zS → Nat), (I105 0 σ28) ∧ ∀ (y29 : Int) (σ30 : zS), I105 y29 σ30 → zR y29 → 
              q_L_places (fun r32 σ31 =>
                (r32 ≤ y29 →
                  K σ31) ∧ (y29 < r32 →
                  q_L_isFlat y29 (fun r35 σ34 =>
                    (0 ≤ y29 ∧ y29 < 81) ∧ (∀ σ37 : zS, σ37 = zU σ34 18 y29 r35 → ∃ (I136 : Int → zS → Prop) (μ136 : Int → zS → Nat), (I136 0 σ37) ∧ ∀ (y38 : Int) (σ39 : zS), I136 y38 σ39 → zR y38 → 
                      (8 ≤ y38 →
                        I105 (y29 + 1) σ39 ∧ zR (y29 + 1) ∧ μ105 (y29 + 1) σ39 < μ105 y29 σ30) ∧ (y38 < 8 →
                        q_W_weigh y29 y38 kind grade boring (fun σ43 =>
                          I136 (y38 + 1) σ43 ∧ zR (y38 + 1) ∧ μ136 (y38 + 1) σ43 < μ136 y38 σ39) σ39))) σ31)) σ30) σ9)) ∧
        ((kind ≠ 4 →
            J90 σ7) ∧ (kind = 4 →
            q_W_markUsed (fun σ47 =>
              J90 σ47) σ7))) ∧ (y6 ≤ 4 →
        (w1 = 0 →
          (0 ≤ y6 ∧ y6 < 5) ∧ (∀ σ50 : zS, σ50 = zU σ7 19 y6 0 → I41 (y6 + 1) σ50 ∧ zR (y6 + 1) ∧ μ41 (y6 + 1) σ50 < μ41 y6 σ7)) ∧ (w1 ≠ 0 →
          q_L_bendCost y6 (fun r54 σ53 =>
            (0 ≤ y6 ∧ y6 < 5) ∧ (∀ σ56 : zS, σ56 = zU σ53 19 y6 (zShl r54 10) → I41 (y6 + 1) σ56 ∧ zR (y6 + 1) ∧ μ41 (y6 + 1) σ56 < μ41 y6 σ7)) σ7))) σ2) ∧
  (∃ J14 : Prop, (J14 →
      J19 1) ∧
    ((kind = 0 →
        J14) ∧ (kind ≠ 0 →
        (kind = 4 →
          J14) ∧ (kind ≠ 4 →
          (kind ≠ 5 →
            J19 0) ∧ (kind = 5 →
            J14)))))
abbrev rm_W_prepare : Room := { frames := 3, cells := 0, slots := 0, locals := 75 }
set_option maxRecDepth 20000 in
set_option maxHeartbeats 4000000 in
theorem s_W_prepare {Ω : zO} {ad : Nat → Nat} {kind : Int} {grade : Int} {boring : Int} {K : zS → Prop} {σ : zS} (hkind : zR kind) (hgrade : zR grade) (hboring : boring = 0 ∨ boring = 1) (h : q_W_prepare kind grade boring K σ) : zMv Ω y_W_prepare (.code y_W_prepare c_W_prepare 7 none) rm_W_prepare zLy ad [.ref (ad 15), .int (zI kind), .int (zI grade), .int (zI boring)] σ K := by
  refine z_ofv (lv := [(0, .ref (ad 15)), (1, .int (zI kind)), (2, .int (zI grade)), (3, .int (zI boring))]) (by decide) rfl (Nat.le_of_ble_eq_true rfl) ?_
  intro Γ Q cx rt
  unfold q_W_prepare at h
  refine v_iload_n cx 1 d_W_prepare_0 rfl rfl ?_
  obtain ⟨J19, hJ19, h⟩ := h
  have G19 : ∀ (w1 : Int), J19 w1 → zR w1 → zV Ω Γ rm_W_prepare 7 Q 0 0 zLy ad σ 19 [(0, .ref (ad 15)), (1, .int (zI kind)), (2, .int (zI grade)), (3, .int (zI boring))] [.int (zI w1)] := by
    intro w1 hJ hw1
    replace h := hJ19 w1 hJ hw1
    refine v_istore (lv' := [(0, .ref (ad 15)), (1, .int (zI kind)), (2, .int (zI grade)), (3, .int (zI boring)), (4, .int (zI w1))]) cx d_W_prepare_19 (by decide) rfl rfl ?_
    refine v_aload_n cx 0 d_W_prepare_21 rfl rfl ?_
    refine v_iconst cx d_W_prepare_22 ?_
    refine pf_W_54 cx ⟨by decide, by decide⟩ d_W_prepare_23 ?_
    refine v_ns (fun σ2 eσ2 => ?_)
    replace h := h σ2 eσ2
    refine v_aload_n cx 0 d_W_prepare_26 rfl rfl ?_
    refine v_aload_n cx 0 d_W_prepare_27 rfl rfl ?_
    refine gf_W_9 cx d_W_prepare_28 ?_
    refine v_iconst cx d_W_prepare_31 ?_
    refine v_callVi0 (st := [.ref (ad 15)]) cx (s_L_value ⟨by decide, by decide⟩ h) yk_L_value lk_W_61 zl_3 rfl rfl rfl (Nat.le_of_ble_eq_true rfl) ⟨Nat.le_of_ble_eq_true rfl, Nat.le_of_ble_eq_true rfl⟩ ⟨rfl, rfl⟩ ⟨(Nat.le_of_ble_eq_true rfl), (Nat.le_of_ble_eq_true rfl)⟩ d_W_prepare_32 (fun r4 σ3 hr4 h => ?_)
    refine pf_W_81 cx hr4 d_W_prepare_35 ?_
    refine v_ns (fun σ5 eσ5 => ?_)
    replace h := h σ5 eσ5
    refine v_iconst cx d_W_prepare_38 ?_
    refine v_istore (lv' := [(0, .ref (ad 15)), (1, .int (zI kind)), (2, .int (zI grade)), (3, .int (zI boring)), (4, .int (zI w1)), (5, .int (zI 0))]) cx d_W_prepare_39 (by decide) rfl rfl ?_
    obtain ⟨I41, μ41, h0, h⟩ := h
    have L41 : ∀ (N41 : Nat) (y6 : Int) (σ7 : zS), μ41 y6 σ7 < N41 → I41 y6 σ7 → zR y6 → zV Ω Γ rm_W_prepare 7 Q 0 0 zLy ad σ7 41 [(0, .ref (ad 15)), (1, .int (zI kind)), (2, .int (zI grade)), (3, .int (zI boring)), (4, .int (zI w1)), (5, .int (zI y6))] [] := by
      intro N41
      induction N41 with
      | zero => intro y6 σ7 hm; exact absurd hm (Nat.not_lt_zero _)
      | succ N41 ih41 =>
        intro y6 σ7 hmm41 hI hy6
        replace h := h y6 σ7 hI hy6
        refine v_iload cx 5 d_W_prepare_41 rfl ?_
        refine v_iconst cx d_W_prepare_43 ?_
        refine v_icmp_gt cx 81 d_W_prepare_44 (by decide) hy6 ⟨by decide, by decide⟩ (fun c8 => ?_) (fun c8 => ?_)
        · replace h := h.1 c8
          refine v_iload_n cx 1 d_W_prepare_81 rfl rfl ?_
          refine v_iconst cx d_W_prepare_82 ?_
          obtain ⟨J90, hJ90, h⟩ := h
          have G90 : ∀ (σ9 : zS), J90 σ9 → zV Ω Γ rm_W_prepare 7 Q 0 0 zLy ad σ9 90 [(0, .ref (ad 15)), (1, .int (zI kind)), (2, .int (zI grade)), (3, .int (zI boring))] [] := by
            intro σ9 hJ 
            replace h := hJ90 σ9 hJ 
            refine v_iload_n cx 1 d_W_prepare_90 rfl rfl ?_
            refine v_iconst cx d_W_prepare_91 ?_
            refine v_icmp_ne cx 102 d_W_prepare_92 (by decide) hkind ⟨by decide, by decide⟩ (fun c10 => ?_) (fun c10 => ?_)
            · replace h := h.1 c10
              refine v_iconst cx d_W_prepare_102 ?_
              refine v_istore (lv' := [(0, .ref (ad 15)), (1, .int (zI kind)), (2, .int (zI grade)), (3, .int (zI boring)), (5, .int (zI 0))]) cx d_W_prepare_103 (by decide) rfl rfl ?_
              obtain ⟨I105, μ105, h0, h⟩ := h
              have L105 : ∀ (N105 : Nat) (y11 : Int) (σ12 : zS), μ105 y11 σ12 < N105 → I105 y11 σ12 → zR y11 → zV Ω Γ rm_W_prepare 7 Q 0 0 zLy ad σ12 105 [(0, .ref (ad 15)), (1, .int (zI kind)), (2, .int (zI grade)), (3, .int (zI boring)), (5, .int (zI y11))] [] := by
                intro N105
                induction N105 with
                | zero => intro y11 σ12 hm; exact absurd hm (Nat.not_lt_zero _)
                | succ N105 ih105 =>
                  intro y11 σ12 hmm105 hI hy11
                  replace h := h y11 σ12 hI hy11
                  refine v_iload cx 4 d_W_prepare_105 rfl ?_
                  refine v_aload_n cx 0 d_W_prepare_107 rfl rfl ?_
                  refine gf_W_9 cx d_W_prepare_108 ?_
                  refine v_callVi0 (st := [.int (zI y11)]) cx (s_L_places  h) yk_L_places lk_W_95 zl_3 rfl rfl rfl (Nat.le_of_ble_eq_true rfl) ⟨Nat.le_of_ble_eq_true rfl, Nat.le_of_ble_eq_true rfl⟩ ⟨rfl, rfl⟩ ⟨(Nat.le_of_ble_eq_true rfl), (Nat.le_of_ble_eq_true rfl)⟩ d_W_prepare_111 (fun r14 σ13 hr14 h => ?_)
                  refine v_icmp_ge cx 166 d_W_prepare_114 (by decide) hy11 hr14 (fun c15 => ?_) (fun c15 => ?_)
                  · replace h := h.1 c15
                    exact rt _ _ _ _ _ (Nat.le_of_ble_eq_true rfl) (Nat.le_of_ble_eq_true rfl) d_W_prepare_166 h
                  · replace h := h.2 c15
                    refine v_aload_n cx 0 d_W_prepare_117 rfl rfl ?_
                    refine gf_W_26 cx d_W_prepare_118 ?_
                    refine v_iload cx 4 d_W_prepare_121 rfl ?_
                    refine v_aload_n cx 0 d_W_prepare_123 rfl rfl ?_
                    refine gf_W_9 cx d_W_prepare_124 ?_
                    refine v_iload cx 4 d_W_prepare_127 rfl ?_
                    refine v_callVz0 (st := [.int (zI y11), .ref (ad 18)]) cx (s_L_isFlat hy11 h) yk_L_isFlat lk_W_99 zl_3 rfl rfl rfl (Nat.le_of_ble_eq_true rfl) ⟨Nat.le_of_ble_eq_true rfl, Nat.le_of_ble_eq_true rfl⟩ ⟨rfl, rfl⟩ ⟨(Nat.le_of_ble_eq_true rfl), (Nat.le_of_ble_eq_true rfl)⟩ d_W_prepare_129 (fun r17 σ16 hr17 h => ?_)
                    obtain ⟨hb18, h⟩ := h
                    refine v_zast cx zl_18 (by decide) hb18.1 hb18.2 hr17 d_W_prepare_132 ?_
                    refine v_ns (fun σ19 eσ19 => ?_)
                    replace h := h σ19 eσ19
                    refine v_iconst cx d_W_prepare_133 ?_
                    refine v_istore (lv' := [(0, .ref (ad 15)), (1, .int (zI kind)), (2, .int (zI grade)), (3, .int (zI boring)), (5, .int (zI y11)), (6, .int (zI 0))]) cx d_W_prepare_134 (by decide) rfl rfl ?_
                    obtain ⟨I136, μ136, h0, h⟩ := h
                    have L136 : ∀ (N136 : Nat) (y20 : Int) (σ21 : zS), μ136 y20 σ21 < N136 → I136 y20 σ21 → zR y20 → zV Ω Γ rm_W_prepare 7 Q 0 0 zLy ad σ21 136 [(0, .ref (ad 15)), (1, .int (zI kind)), (2, .int (zI grade)), (3, .int (zI boring)), (5, .int (zI y11)), (6, .int (zI y20))] [] := by
                      intro N136
                      induction N136 with
                      | zero => intro y20 σ21 hm; exact absurd hm (Nat.not_lt_zero _)
                      | succ N136 ih136 =>
                        intro y20 σ21 hmm136 hI hy20
                        replace h := h y20 σ21 hI hy20
                        refine v_iload cx 5 d_W_prepare_136 rfl ?_
                        refine v_bipush cx (by decide) d_W_prepare_138 ?_
                        refine v_icmp_ge cx 160 d_W_prepare_140 (by decide) hy20 ⟨by decide, by decide⟩ (fun c22 => ?_) (fun c22 => ?_)
                        · replace h := h.1 c22
                          refine v_iinc (lv' := [(0, .ref (ad 15)), (1, .int (zI kind)), (2, .int (zI grade)), (3, .int (zI boring)), (5, .int (zI (y11 + 1))), (6, .int (zI y20))]) cx 4 d_W_prepare_160 rfl (by decide) rfl rfl ?_
                          refine v_goto cx 105 d_W_prepare_163 (by decide) ?_
                          refine v_sb (lv' := [(0, .ref (ad 15)), (1, .int (zI kind)), (2, .int (zI grade)), (3, .int (zI boring)), (5, .int (zI (y11 + 1)))]) [0, 1, 2, 3, 4] rfl ?_
                          obtain ⟨hI2, hz24, hm2⟩ := h
                          exact ih105 _ _ (Nat.lt_of_lt_of_le hm2 (Nat.le_of_lt_succ hmm105)) hI2 hz24
                        · replace h := h.2 c22
                          refine v_aload_n cx 0 d_W_prepare_143 rfl rfl ?_
                          refine v_iload cx 4 d_W_prepare_144 rfl ?_
                          refine v_iload cx 5 d_W_prepare_146 rfl ?_
                          refine v_iload_n cx 1 d_W_prepare_148 rfl rfl ?_
                          refine v_iload_n cx 2 d_W_prepare_149 rfl rfl ?_
                          refine v_iload_n cx 3 d_W_prepare_150 rfl rfl ?_
                          refine v_callVv0 (st := []) cx (s_W_weigh hy11 hy20 hkind hgrade hboring h) yk_W_weigh lk_W_103 zl_15 rfl rfl rfl (Nat.le_of_ble_eq_true rfl) ⟨Nat.le_of_ble_eq_true rfl, Nat.le_of_ble_eq_true rfl⟩ ⟨rfl, rfl⟩ ⟨(Nat.le_of_ble_eq_true rfl), (Nat.le_of_ble_eq_true rfl)⟩ d_W_prepare_151 (fun σ25 h => ?_)
                          refine v_iinc (lv' := [(0, .ref (ad 15)), (1, .int (zI kind)), (2, .int (zI grade)), (3, .int (zI boring)), (5, .int (zI y11)), (6, .int (zI (y20 + 1)))]) cx 5 d_W_prepare_154 rfl (by decide) rfl rfl ?_
                          refine v_goto cx 136 d_W_prepare_157 (by decide) ?_
                          obtain ⟨hI2, hz27, hm2⟩ := h
                          exact ih136 _ _ (Nat.lt_of_lt_of_le hm2 (Nat.le_of_lt_succ hmm136)) hI2 hz27
                    exact L136 _ _ _ (Nat.lt_succ_self _) h0 ⟨by decide, by decide⟩
              exact L105 _ _ _ (Nat.lt_succ_self _) h0 ⟨by decide, by decide⟩
            · replace h := h.2 c10
              refine v_aload_n cx 0 d_W_prepare_95 rfl rfl ?_
              refine gf_W_15 cx d_W_prepare_96 ?_
              refine v_callVv0 (st := []) cx (s_S_gather  h) yk_S_gather lk_W_90 zl_11 rfl rfl rfl (Nat.le_of_ble_eq_true rfl) ⟨Nat.le_of_ble_eq_true rfl, Nat.le_of_ble_eq_true rfl⟩ ⟨rfl, rfl⟩ ⟨(Nat.le_of_ble_eq_true rfl), (Nat.le_of_ble_eq_true rfl)⟩ d_W_prepare_99 (fun σ28 h => ?_)
              refine v_iconst cx d_W_prepare_102 ?_
              refine v_istore (lv' := [(0, .ref (ad 15)), (1, .int (zI kind)), (2, .int (zI grade)), (3, .int (zI boring)), (5, .int (zI 0))]) cx d_W_prepare_103 (by decide) rfl rfl ?_
              obtain ⟨I105, μ105, h0, h⟩ := h
              have L105 : ∀ (N105 : Nat) (y29 : Int) (σ30 : zS), μ105 y29 σ30 < N105 → I105 y29 σ30 → zR y29 → zV Ω Γ rm_W_prepare 7 Q 0 0 zLy ad σ30 105 [(0, .ref (ad 15)), (1, .int (zI kind)), (2, .int (zI grade)), (3, .int (zI boring)), (5, .int (zI y29))] [] := by
                intro N105
                induction N105 with
                | zero => intro y29 σ30 hm; exact absurd hm (Nat.not_lt_zero _)
                | succ N105 ih105 =>
                  intro y29 σ30 hmm105 hI hy29
                  replace h := h y29 σ30 hI hy29
                  refine v_iload cx 4 d_W_prepare_105 rfl ?_
                  refine v_aload_n cx 0 d_W_prepare_107 rfl rfl ?_
                  refine gf_W_9 cx d_W_prepare_108 ?_
                  refine v_callVi0 (st := [.int (zI y29)]) cx (s_L_places  h) yk_L_places lk_W_95 zl_3 rfl rfl rfl (Nat.le_of_ble_eq_true rfl) ⟨Nat.le_of_ble_eq_true rfl, Nat.le_of_ble_eq_true rfl⟩ ⟨rfl, rfl⟩ ⟨(Nat.le_of_ble_eq_true rfl), (Nat.le_of_ble_eq_true rfl)⟩ d_W_prepare_111 (fun r32 σ31 hr32 h => ?_)
                  refine v_icmp_ge cx 166 d_W_prepare_114 (by decide) hy29 hr32 (fun c33 => ?_) (fun c33 => ?_)
                  · replace h := h.1 c33
                    exact rt _ _ _ _ _ (Nat.le_of_ble_eq_true rfl) (Nat.le_of_ble_eq_true rfl) d_W_prepare_166 h
                  · replace h := h.2 c33
                    refine v_aload_n cx 0 d_W_prepare_117 rfl rfl ?_
                    refine gf_W_26 cx d_W_prepare_118 ?_
                    refine v_iload cx 4 d_W_prepare_121 rfl ?_
                    refine v_aload_n cx 0 d_W_prepare_123 rfl rfl ?_
                    refine gf_W_9 cx d_W_prepare_124 ?_
                    refine v_iload cx 4 d_W_prepare_127 rfl ?_
                    refine v_callVz0 (st := [.int (zI y29), .ref (ad 18)]) cx (s_L_isFlat hy29 h) yk_L_isFlat lk_W_99 zl_3 rfl rfl rfl (Nat.le_of_ble_eq_true rfl) ⟨Nat.le_of_ble_eq_true rfl, Nat.le_of_ble_eq_true rfl⟩ ⟨rfl, rfl⟩ ⟨(Nat.le_of_ble_eq_true rfl), (Nat.le_of_ble_eq_true rfl)⟩ d_W_prepare_129 (fun r35 σ34 hr35 h => ?_)
                    obtain ⟨hb36, h⟩ := h
                    refine v_zast cx zl_18 (by decide) hb36.1 hb36.2 hr35 d_W_prepare_132 ?_
                    refine v_ns (fun σ37 eσ37 => ?_)
                    replace h := h σ37 eσ37
                    refine v_iconst cx d_W_prepare_133 ?_
                    refine v_istore (lv' := [(0, .ref (ad 15)), (1, .int (zI kind)), (2, .int (zI grade)), (3, .int (zI boring)), (5, .int (zI y29)), (6, .int (zI 0))]) cx d_W_prepare_134 (by decide) rfl rfl ?_
                    obtain ⟨I136, μ136, h0, h⟩ := h
                    have L136 : ∀ (N136 : Nat) (y38 : Int) (σ39 : zS), μ136 y38 σ39 < N136 → I136 y38 σ39 → zR y38 → zV Ω Γ rm_W_prepare 7 Q 0 0 zLy ad σ39 136 [(0, .ref (ad 15)), (1, .int (zI kind)), (2, .int (zI grade)), (3, .int (zI boring)), (5, .int (zI y29)), (6, .int (zI y38))] [] := by
                      intro N136
                      induction N136 with
                      | zero => intro y38 σ39 hm; exact absurd hm (Nat.not_lt_zero _)
                      | succ N136 ih136 =>
                        intro y38 σ39 hmm136 hI hy38
                        replace h := h y38 σ39 hI hy38
                        refine v_iload cx 5 d_W_prepare_136 rfl ?_
                        refine v_bipush cx (by decide) d_W_prepare_138 ?_
                        refine v_icmp_ge cx 160 d_W_prepare_140 (by decide) hy38 ⟨by decide, by decide⟩ (fun c40 => ?_) (fun c40 => ?_)
                        · replace h := h.1 c40
                          refine v_iinc (lv' := [(0, .ref (ad 15)), (1, .int (zI kind)), (2, .int (zI grade)), (3, .int (zI boring)), (5, .int (zI (y29 + 1))), (6, .int (zI y38))]) cx 4 d_W_prepare_160 rfl (by decide) rfl rfl ?_
                          refine v_goto cx 105 d_W_prepare_163 (by decide) ?_
                          refine v_sb (lv' := [(0, .ref (ad 15)), (1, .int (zI kind)), (2, .int (zI grade)), (3, .int (zI boring)), (5, .int (zI (y29 + 1)))]) [0, 1, 2, 3, 4] rfl ?_
                          obtain ⟨hI2, hz42, hm2⟩ := h
                          exact ih105 _ _ (Nat.lt_of_lt_of_le hm2 (Nat.le_of_lt_succ hmm105)) hI2 hz42
                        · replace h := h.2 c40
                          refine v_aload_n cx 0 d_W_prepare_143 rfl rfl ?_
                          refine v_iload cx 4 d_W_prepare_144 rfl ?_
                          refine v_iload cx 5 d_W_prepare_146 rfl ?_
                          refine v_iload_n cx 1 d_W_prepare_148 rfl rfl ?_
                          refine v_iload_n cx 2 d_W_prepare_149 rfl rfl ?_
                          refine v_iload_n cx 3 d_W_prepare_150 rfl rfl ?_
                          refine v_callVv0 (st := []) cx (s_W_weigh hy29 hy38 hkind hgrade hboring h) yk_W_weigh lk_W_103 zl_15 rfl rfl rfl (Nat.le_of_ble_eq_true rfl) ⟨Nat.le_of_ble_eq_true rfl, Nat.le_of_ble_eq_true rfl⟩ ⟨rfl, rfl⟩ ⟨(Nat.le_of_ble_eq_true rfl), (Nat.le_of_ble_eq_true rfl)⟩ d_W_prepare_151 (fun σ43 h => ?_)
                          refine v_iinc (lv' := [(0, .ref (ad 15)), (1, .int (zI kind)), (2, .int (zI grade)), (3, .int (zI boring)), (5, .int (zI y29)), (6, .int (zI (y38 + 1)))]) cx 5 d_W_prepare_154 rfl (by decide) rfl rfl ?_
                          refine v_goto cx 136 d_W_prepare_157 (by decide) ?_
                          obtain ⟨hI2, hz45, hm2⟩ := h
                          exact ih136 _ _ (Nat.lt_of_lt_of_le hm2 (Nat.le_of_lt_succ hmm136)) hI2 hz45
                    exact L136 _ _ _ (Nat.lt_succ_self _) h0 ⟨by decide, by decide⟩
              exact L105 _ _ _ (Nat.lt_succ_self _) h0 ⟨by decide, by decide⟩
          refine v_icmp_ne cx 90 d_W_prepare_83 (by decide) hkind ⟨by decide, by decide⟩ (fun c46 => ?_) (fun c46 => ?_)
          · replace h := h.1 c46
            refine v_sb (lv' := [(0, .ref (ad 15)), (1, .int (zI kind)), (2, .int (zI grade)), (3, .int (zI boring))]) [0, 1, 2, 3] rfl ?_
            have hJ2 := h
            exact G90 _ hJ2 
          · replace h := h.2 c46
            refine v_aload_n cx 0 d_W_prepare_86 rfl rfl ?_
            refine v_callVv0 (st := []) cx (s_W_markUsed  h) yk_W_markUsed lk_W_87 zl_15 rfl rfl rfl (Nat.le_of_ble_eq_true rfl) ⟨Nat.le_of_ble_eq_true rfl, Nat.le_of_ble_eq_true rfl⟩ ⟨rfl, rfl⟩ ⟨(Nat.le_of_ble_eq_true rfl), (Nat.le_of_ble_eq_true rfl)⟩ d_W_prepare_87 (fun σ47 h => ?_)
            refine v_sb (lv' := [(0, .ref (ad 15)), (1, .int (zI kind)), (2, .int (zI grade)), (3, .int (zI boring))]) [0, 1, 2, 3] rfl ?_
            have hJ2 := h
            exact G90 _ hJ2 
        · replace h := h.2 c8
          refine v_aload_n cx 0 d_W_prepare_47 rfl rfl ?_
          refine gf_W_30 cx d_W_prepare_48 ?_
          refine v_iload cx 5 d_W_prepare_51 rfl ?_
          refine v_iload cx 4 d_W_prepare_53 rfl ?_
          refine v_if_eq cx 73 d_W_prepare_55 (by decide) hw1 (fun c48 => ?_) (fun c48 => ?_)
          · replace h := h.1 c48
            refine v_iconst cx d_W_prepare_73 ?_
            obtain ⟨hb49, h⟩ := h
            refine v_iast cx zl_19 (by decide) hb49.1 hb49.2 ⟨by decide, by decide⟩ d_W_prepare_74 ?_
            refine v_ns (fun σ50 eσ50 => ?_)
            replace h := h σ50 eσ50
            refine v_iinc (lv' := [(0, .ref (ad 15)), (1, .int (zI kind)), (2, .int (zI grade)), (3, .int (zI boring)), (4, .int (zI w1)), (5, .int (zI (y6 + 1)))]) cx 5 d_W_prepare_75 rfl (by decide) rfl rfl ?_
            refine v_goto cx 41 d_W_prepare_78 (by decide) ?_
            obtain ⟨hI2, hz52, hm2⟩ := h
            exact ih41 _ _ (Nat.lt_of_lt_of_le hm2 (Nat.le_of_lt_succ hmm41)) hI2 hz52
          · replace h := h.2 c48
            refine v_aload_n cx 0 d_W_prepare_58 rfl rfl ?_
            refine gf_W_9 cx d_W_prepare_59 ?_
            refine v_iload cx 5 d_W_prepare_62 rfl ?_
            refine v_callVi0 (st := [.int (zI y6), .ref (ad 19)]) cx (s_L_bendCost hy6 h) yk_L_bendCost lk_W_84 zl_3 rfl rfl rfl (Nat.le_of_ble_eq_true rfl) ⟨Nat.le_of_ble_eq_true rfl, Nat.le_of_ble_eq_true rfl⟩ ⟨rfl, rfl⟩ ⟨(Nat.le_of_ble_eq_true rfl), (Nat.le_of_ble_eq_true rfl)⟩ d_W_prepare_64 (fun r54 σ53 hr54 h => ?_)
            refine v_bipush cx (by decide) d_W_prepare_67 ?_
            refine v_ishl cx d_W_prepare_69 ?_
            refine v_goto cx 74 d_W_prepare_70 (by decide) ?_
            obtain ⟨hb55, h⟩ := h
            refine v_iast cx zl_19 (by decide) hb55.1 hb55.2 (zR_shl _ _) d_W_prepare_74 ?_
            refine v_ns (fun σ56 eσ56 => ?_)
            replace h := h σ56 eσ56
            refine v_iinc (lv' := [(0, .ref (ad 15)), (1, .int (zI kind)), (2, .int (zI grade)), (3, .int (zI boring)), (4, .int (zI w1)), (5, .int (zI (y6 + 1)))]) cx 5 d_W_prepare_75 rfl (by decide) rfl rfl ?_
            refine v_goto cx 41 d_W_prepare_78 (by decide) ?_
            obtain ⟨hI2, hz58, hm2⟩ := h
            exact ih41 _ _ (Nat.lt_of_lt_of_le hm2 (Nat.le_of_lt_succ hmm41)) hI2 hz58
    exact L41 _ _ _ (Nat.lt_succ_self _) h0 ⟨by decide, by decide⟩
  obtain ⟨J14, hJ14, h⟩ := h
  have G14 : J14 → zV Ω Γ rm_W_prepare 7 Q 0 0 zLy ad σ 14 [(0, .ref (ad 15)), (1, .int (zI kind)), (2, .int (zI grade)), (3, .int (zI boring))] [] := by
    intro hJ
    replace h := hJ14 hJ
    refine v_iconst cx d_W_prepare_14 ?_
    refine v_goto cx 19 d_W_prepare_15 (by decide) ?_
    have hJ2 := h
    exact G19 _ hJ2 ⟨by decide, by decide⟩
  refine v_if_eq cx 14 d_W_prepare_1 (by decide) hkind (fun c59 => ?_) (fun c59 => ?_)
  · replace h := h.1 c59
    have hJ2 := h
    exact G14 hJ2 
  · replace h := h.2 c59
    refine v_iload_n cx 1 d_W_prepare_4 rfl rfl ?_
    refine v_iconst cx d_W_prepare_5 ?_
    refine v_icmp_eq cx 14 d_W_prepare_6 (by decide) hkind ⟨by decide, by decide⟩ (fun c60 => ?_) (fun c60 => ?_)
    · replace h := h.1 c60
      have hJ2 := h
      exact G14 hJ2 
    · replace h := h.2 c60
      refine v_iload_n cx 1 d_W_prepare_9 rfl rfl ?_
      refine v_iconst cx d_W_prepare_10 ?_
      refine v_icmp_ne cx 18 d_W_prepare_11 (by decide) hkind ⟨by decide, by decide⟩ (fun c61 => ?_) (fun c61 => ?_)
      · replace h := h.1 c61
        refine v_iconst cx d_W_prepare_18 ?_
        have hJ2 := h
        exact G19 _ hJ2 ⟨by decide, by decide⟩
      · replace h := h.2 c61
        have hJ2 := h
        exact G14 hJ2 
def q_W_canBend (place : Int) (heading : Int) (other : Int) (K : Int → zS → Prop) (σ : zS) : Prop :=
  (0 ≤ place ∧ place < 81) ∧ (((σ 18 place) ≠ 0 →
      K 1 σ) ∧ ((σ 18 place) = 0 →
      q_R_eighths heading other (fun r5 σ4 =>
        ((σ4 15 11) < r5 →
          K 0 σ4) ∧ (r5 ≤ (σ4 15 11) →
          K 1 σ4)) σ))
abbrev rm_W_canBend : Room := { frames := 1, cells := 0, slots := 0, locals := 22 }
set_option maxRecDepth 20000 in
set_option maxHeartbeats 4000000 in
theorem s_W_canBend {Ω : zO} {ad : Nat → Nat} {place : Int} {heading : Int} {other : Int} {K : Int → zS → Prop} {σ : zS} (hplace : zR place) (hheading : zR heading) (hother : zR other) (h : q_W_canBend place heading other K σ) : zMz Ω y_W_canBend (.code y_W_canBend c_W_canBend 4 (some .boolean)) rm_W_canBend zLy ad [.ref (ad 15), .int (zI place), .int (zI heading), .int (zI other)] σ K := by
  refine z_ofz (lv := [(0, .ref (ad 15)), (1, .int (zI place)), (2, .int (zI heading)), (3, .int (zI other))]) (by decide) rfl (Nat.le_of_ble_eq_true rfl) ?_
  intro Γ Q cx rt
  unfold q_W_canBend at h
  refine v_aload_n cx 0 d_W_canBend_0 rfl rfl ?_
  refine gf_W_26 cx d_W_canBend_1 ?_
  refine v_iload_n cx 1 d_W_canBend_4 rfl rfl ?_
  obtain ⟨hb1, h⟩ := h
  refine v_zald cx zl_18 (by decide) hb1.1 hb1.2 d_W_canBend_5 (fun hl2 => ?_)
  refine v_if_ne cx 21 d_W_canBend_6 (by decide) hl2 (fun c3 => ?_) (fun c3 => ?_)
  · replace h := h.1 c3
    refine v_iconst cx d_W_canBend_21 ?_
    refine v_goto cx 26 d_W_canBend_22 (by decide) ?_
    exact rt _ _ _ _ _ _ (Nat.le_of_ble_eq_true rfl) (Nat.le_of_ble_eq_true rfl) d_W_canBend_26 (Or.inr rfl) h
  · replace h := h.2 c3
    refine v_iload_n cx 2 d_W_canBend_9 rfl rfl ?_
    refine v_iload_n cx 3 d_W_canBend_10 rfl rfl ?_
    refine v_callNi0 (st := []) cx (s_R_eighths hheading hother h) yk_R_eighths ln_W_150 rfl rfl (Nat.le_of_ble_eq_true rfl) ⟨Nat.le_of_ble_eq_true rfl, Nat.le_of_ble_eq_true rfl⟩ ⟨rfl, rfl⟩ ⟨(Nat.le_of_ble_eq_true rfl), (Nat.le_of_ble_eq_true rfl)⟩ d_W_canBend_11 (fun r5 σ4 hr5 h => ?_)
    refine v_aload_n cx 0 d_W_canBend_14 rfl rfl ?_
    refine gf_W_81 cx d_W_canBend_15 (fun hl6 => ?_)
    refine v_icmp_gt cx 25 d_W_canBend_18 (by decide) hr5 hl6 (fun c7 => ?_) (fun c7 => ?_)
    · replace h := h.1 c7
      refine v_iconst cx d_W_canBend_25 ?_
      exact rt _ _ _ _ _ _ (Nat.le_of_ble_eq_true rfl) (Nat.le_of_ble_eq_true rfl) d_W_canBend_26 (Or.inl rfl) h
    · replace h := h.2 c7
      refine v_iconst cx d_W_canBend_21 ?_
      refine v_goto cx 26 d_W_canBend_22 (by decide) ?_
      exact rt _ _ _ _ _ _ (Nat.le_of_ble_eq_true rfl) (Nat.le_of_ble_eq_true rfl) d_W_canBend_26 (Or.inr rfl) h
def q_W_offerStepsTo (place : Int) (after : Int) (layer : Int) (key : Int) (K : zS → Prop) (σ : zS) : Prop :=
  ∃ (I3 : Int → zS → Prop) (μ3 : Int → zS → Nat), (I3 0 σ) ∧ ∀ (y1 : Int) (σ2 : zS), I3 y1 σ2 → zR y1 → 
  (8 ≤ y1 →
    K σ2) ∧ (y1 < 8 →
    q_R_opposite y1 (fun r5 σ4 =>
      q_L_besideOf place r5 (fun r7 σ6 =>
        ∀ x8 : Int, x8 = (r7 * 8) + y1 → (r7 = (-1) →
          I3 (y1 + 1) σ6 ∧ zR (y1 + 1) ∧ μ3 (y1 + 1) σ6 < μ3 y1 σ2) ∧ (r7 ≠ (-1) →
          (0 ≤ x8 ∧ x8 < 648) ∧ (((σ6 16 x8) = (-1) →
              I3 (y1 + 1) σ6 ∧ zR (y1 + 1) ∧ μ3 (y1 + 1) σ6 < μ3 y1 σ2) ∧ ((σ6 16 x8) ≠ (-1) →
              zR (layer + (σ6 17 x8)) ∧ (((layer + (σ6 17 x8)) < (σ6 15 12) →
                  ∃ J106 : Int → zS → Prop, (∀ (w21 : Int) (σ22 : zS), J106 w21 σ22 → zR w21 → 
                    zR (((layer + (σ22 17 x8)) * 648) + x8) ∧ (zR ((key + w21) + (σ22 16 x8)) ∧ (q_H_offer (((layer + (σ22 17 x8)) * 648) + x8) ((key + w21) + (σ22 16 x8)) (fun σ27 =>
                          I3 (y1 + 1) σ27 ∧ zR (y1 + 1) ∧ μ3 (y1 + 1) σ27 < μ3 y1 σ2) σ22))) ∧
                  ((after = (-1) →
                      J106 0 σ6) ∧ (after ≠ (-1) →
                      q_W_canBend place y1 after (fun r32 σ31 =>
                        (r32 ≠ 0 →
                          q_R_eighths y1 after (fun r35 σ34 =>
                            (0 ≤ r35 ∧ r35 < 5) ∧ (∀ x38 : Int, x38 = σ34 19 r35 → J106 x38 σ34)) σ31) ∧ (r32 = 0 →
                          I3 (y1 + 1) σ31 ∧ zR (y1 + 1) ∧ μ3 (y1 + 1) σ31 < μ3 y1 σ2)) σ6))) ∧ ((σ6 15 12) ≤ (layer + (σ6 17 x8)) →
                  I3 (y1 + 1) σ6 ∧ zR (y1 + 1) ∧ μ3 (y1 + 1) σ6 < μ3 y1 σ2)))))) σ4) σ2)
abbrev rm_W_offerStepsTo : Room := { frames := 2, cells := 0, slots := 0, locals := 46 }
set_option maxRecDepth 20000 in
set_option maxHeartbeats 4000000 in
theorem s_W_offerStepsTo {Ω : zO} {ad : Nat → Nat} {place : Int} {after : Int} {layer : Int} {key : Int} {K : zS → Prop} {σ : zS} (hplace : zR place) (hafter : zR after) (hlayer : zR layer) (hkey : zR key) (h : q_W_offerStepsTo place after layer key K σ) : zMv Ω y_W_offerStepsTo (.code y_W_offerStepsTo c_W_offerStepsTo 9 none) rm_W_offerStepsTo zLy ad [.ref (ad 15), .int (zI place), .int (zI after), .int (zI layer), .int (zI key)] σ K := by
  refine z_ofv (lv := [(0, .ref (ad 15)), (1, .int (zI place)), (2, .int (zI after)), (3, .int (zI layer)), (4, .int (zI key))]) (by decide) rfl (Nat.le_of_ble_eq_true rfl) ?_
  intro Γ Q cx rt
  unfold q_W_offerStepsTo at h
  refine v_iconst cx d_W_offerStepsTo_0 ?_
  refine v_istore (lv' := [(0, .ref (ad 15)), (1, .int (zI place)), (2, .int (zI after)), (3, .int (zI layer)), (4, .int (zI key)), (5, .int (zI 0))]) cx d_W_offerStepsTo_1 (by decide) rfl rfl ?_
  obtain ⟨I3, μ3, h0, h⟩ := h
  have L3 : ∀ (N3 : Nat) (y1 : Int) (σ2 : zS), μ3 y1 σ2 < N3 → I3 y1 σ2 → zR y1 → zV Ω Γ rm_W_offerStepsTo 9 Q 0 0 zLy ad σ2 3 [(0, .ref (ad 15)), (1, .int (zI place)), (2, .int (zI after)), (3, .int (zI layer)), (4, .int (zI key)), (5, .int (zI y1))] [] := by
    intro N3
    induction N3 with
    | zero => intro y1 σ2 hm; exact absurd hm (Nat.not_lt_zero _)
    | succ N3 ih3 =>
      intro y1 σ2 hmm3 hI hy1
      replace h := h y1 σ2 hI hy1
      refine v_iload cx 5 d_W_offerStepsTo_3 rfl ?_
      refine v_bipush cx (by decide) d_W_offerStepsTo_5 ?_
      refine v_icmp_ge cx 148 d_W_offerStepsTo_7 (by decide) hy1 ⟨by decide, by decide⟩ (fun c3 => ?_) (fun c3 => ?_)
      · replace h := h.1 c3
        exact rt _ _ _ _ _ (Nat.le_of_ble_eq_true rfl) (Nat.le_of_ble_eq_true rfl) d_W_offerStepsTo_148 h
      · replace h := h.2 c3
        refine v_aload_n cx 0 d_W_offerStepsTo_10 rfl rfl ?_
        refine gf_W_9 cx d_W_offerStepsTo_11 ?_
        refine v_iload_n cx 1 d_W_offerStepsTo_14 rfl rfl ?_
        refine v_iload cx 5 d_W_offerStepsTo_15 rfl ?_
        refine v_callNi0 (st := [.int (zI place), .ref (ad 3)]) cx (s_R_opposite hy1 h) yk_R_opposite ln_W_147 rfl rfl (Nat.le_of_ble_eq_true rfl) ⟨Nat.le_of_ble_eq_true rfl, Nat.le_of_ble_eq_true rfl⟩ ⟨rfl, rfl⟩ ⟨(Nat.le_of_ble_eq_true rfl), (Nat.le_of_ble_eq_true rfl)⟩ d_W_offerStepsTo_17 (fun r5 σ4 hr5 h => ?_)
        refine v_callVi0 (st := []) cx (s_L_besideOf hplace hr5 h) yk_L_besideOf lk_W_119 zl_3 rfl rfl rfl (Nat.le_of_ble_eq_true rfl) ⟨Nat.le_of_ble_eq_true rfl, Nat.le_of_ble_eq_true rfl⟩ ⟨rfl, rfl⟩ ⟨(Nat.le_of_ble_eq_true rfl), (Nat.le_of_ble_eq_true rfl)⟩ d_W_offerStepsTo_20 (fun r7 σ6 hr7 h => ?_)
        refine v_istore (lv' := [(0, .ref (ad 15)), (1, .int (zI place)), (2, .int (zI after)), (3, .int (zI layer)), (4, .int (zI key)), (5, .int (zI y1)), (6, .int (zI r7))]) cx d_W_offerStepsTo_23 (by decide) rfl rfl ?_
        refine v_iload cx 6 d_W_offerStepsTo_25 rfl ?_
        refine v_bipush cx (by decide) d_W_offerStepsTo_27 ?_
        refine v_imul cx d_W_offerStepsTo_29 ?_
        refine v_iload cx 5 d_W_offerStepsTo_30 rfl ?_
        refine v_iadd cx d_W_offerStepsTo_32 ?_
        refine v_nm (fun x8 ex8 => ?_)
        replace h := h x8 ex8
        refine v_istore (lv' := [(0, .ref (ad 15)), (1, .int (zI place)), (2, .int (zI after)), (3, .int (zI layer)), (4, .int (zI key)), (5, .int (zI y1)), (6, .int (zI r7)), (7, .int (zI x8))]) cx d_W_offerStepsTo_33 (by decide) rfl rfl ?_
        refine v_iload cx 6 d_W_offerStepsTo_35 rfl ?_
        refine v_iconst cx d_W_offerStepsTo_37 ?_
        refine v_icmp_eq cx 142 d_W_offerStepsTo_38 (by decide) hr7 ⟨by decide, by decide⟩ (fun c9 => ?_) (fun c9 => ?_)
        · replace h := h.1 c9
          refine v_iinc (lv' := [(0, .ref (ad 15)), (1, .int (zI place)), (2, .int (zI after)), (3, .int (zI layer)), (4, .int (zI key)), (5, .int (zI (y1 + 1))), (6, .int (zI r7)), (7, .int (zI x8))]) cx 5 d_W_offerStepsTo_142 rfl (by decide) rfl rfl ?_
          refine v_goto cx 3 d_W_offerStepsTo_145 (by decide) ?_
          refine v_sb (lv' := [(0, .ref (ad 15)), (1, .int (zI place)), (2, .int (zI after)), (3, .int (zI layer)), (4, .int (zI key)), (5, .int (zI (y1 + 1)))]) [0, 1, 2, 3, 4, 5] rfl ?_
          obtain ⟨hI2, hz11, hm2⟩ := h
          exact ih3 _ _ (Nat.lt_of_lt_of_le hm2 (Nat.le_of_lt_succ hmm3)) hI2 hz11
        · replace h := h.2 c9
          refine v_aload_n cx 0 d_W_offerStepsTo_41 rfl rfl ?_
          refine gf_W_19 cx d_W_offerStepsTo_42 ?_
          refine v_iload cx 7 d_W_offerStepsTo_45 rfl ?_
          obtain ⟨hb12, h⟩ := h
          refine v_iald cx zl_16 (by decide) hb12.1 hb12.2 d_W_offerStepsTo_47 (fun hl13 => ?_)
          refine v_iconst cx d_W_offerStepsTo_48 ?_
          refine v_icmp_eq cx 142 d_W_offerStepsTo_49 (by decide) hl13 ⟨by decide, by decide⟩ (fun c14 => ?_) (fun c14 => ?_)
          · replace h := h.1 c14
            refine v_iinc (lv' := [(0, .ref (ad 15)), (1, .int (zI place)), (2, .int (zI after)), (3, .int (zI layer)), (4, .int (zI key)), (5, .int (zI (y1 + 1))), (6, .int (zI r7)), (7, .int (zI x8))]) cx 5 d_W_offerStepsTo_142 rfl (by decide) rfl rfl ?_
            refine v_goto cx 3 d_W_offerStepsTo_145 (by decide) ?_
            refine v_sb (lv' := [(0, .ref (ad 15)), (1, .int (zI place)), (2, .int (zI after)), (3, .int (zI layer)), (4, .int (zI key)), (5, .int (zI (y1 + 1)))]) [0, 1, 2, 3, 4, 5] rfl ?_
            obtain ⟨hI2, hz16, hm2⟩ := h
            exact ih3 _ _ (Nat.lt_of_lt_of_le hm2 (Nat.le_of_lt_succ hmm3)) hI2 hz16
          · replace h := h.2 c14
            refine v_iload_n cx 3 d_W_offerStepsTo_52 rfl rfl ?_
            refine v_aload_n cx 0 d_W_offerStepsTo_53 rfl rfl ?_
            refine gf_W_23 cx d_W_offerStepsTo_54 ?_
            refine v_iload cx 7 d_W_offerStepsTo_57 rfl ?_
            refine v_iald cx zl_17 (by decide) hb12.1 hb12.2 d_W_offerStepsTo_59 (fun hl17 => ?_)
            refine v_iadd cx d_W_offerStepsTo_60 ?_
            refine v_aload_n cx 0 d_W_offerStepsTo_61 rfl rfl ?_
            refine gf_W_54 cx d_W_offerStepsTo_62 (fun hl18 => ?_)
            obtain ⟨hr19, h⟩ := h
            refine v_icmp_lt cx 71 d_W_offerStepsTo_65 (by decide) hr19 hl18 (fun c20 => ?_) (fun c20 => ?_)
            · replace h := h.1 c20
              refine v_iconst cx d_W_offerStepsTo_71 ?_
              refine v_istore (lv' := [(0, .ref (ad 15)), (1, .int (zI place)), (2, .int (zI after)), (3, .int (zI layer)), (4, .int (zI key)), (5, .int (zI y1)), (6, .int (zI r7)), (7, .int (zI x8)), (8, .int (zI 0))]) cx d_W_offerStepsTo_72 (by decide) rfl rfl ?_
              refine v_iload_n cx 2 d_W_offerStepsTo_74 rfl rfl ?_
              refine v_iconst cx d_W_offerStepsTo_75 ?_
              obtain ⟨J106, hJ106, h⟩ := h
              have G106 : ∀ (w21 : Int) (σ22 : zS), J106 w21 σ22 → zR w21 → zV Ω Γ rm_W_offerStepsTo 9 Q 0 0 zLy ad σ22 106 [(0, .ref (ad 15)), (1, .int (zI place)), (2, .int (zI after)), (3, .int (zI layer)), (4, .int (zI key)), (5, .int (zI y1)), (7, .int (zI x8)), (8, .int (zI w21))] [] := by
                intro w21 σ22 hJ hw21
                replace h := hJ106 w21 σ22 hJ hw21
                refine v_aload_n cx 0 d_W_offerStepsTo_106 rfl rfl ?_
                refine gf_W_41 cx d_W_offerStepsTo_107 ?_
                refine v_iload_n cx 3 d_W_offerStepsTo_110 rfl rfl ?_
                refine v_aload_n cx 0 d_W_offerStepsTo_111 rfl rfl ?_
                refine gf_W_23 cx d_W_offerStepsTo_112 ?_
                refine v_iload cx 6 d_W_offerStepsTo_115 rfl ?_
                refine v_iald cx zl_17 (by decide) hb12.1 hb12.2 d_W_offerStepsTo_117 (fun hl23 => ?_)
                refine v_iadd cx d_W_offerStepsTo_118 ?_
                refine v_sipush cx (by decide) d_W_offerStepsTo_119 ?_
                refine v_imul cx d_W_offerStepsTo_122 ?_
                refine v_iload cx 6 d_W_offerStepsTo_123 rfl ?_
                refine v_iadd cx d_W_offerStepsTo_125 ?_
                refine v_iload cx 4 d_W_offerStepsTo_126 rfl ?_
                refine v_iload cx 7 d_W_offerStepsTo_128 rfl ?_
                refine v_iadd cx d_W_offerStepsTo_130 ?_
                refine v_aload_n cx 0 d_W_offerStepsTo_131 rfl rfl ?_
                refine gf_W_19 cx d_W_offerStepsTo_132 ?_
                refine v_iload cx 6 d_W_offerStepsTo_135 rfl ?_
                refine v_iald cx zl_16 (by decide) hb12.1 hb12.2 d_W_offerStepsTo_137 (fun hl24 => ?_)
                refine v_iadd cx d_W_offerStepsTo_138 ?_
                obtain ⟨hr25, h⟩ := h
                obtain ⟨hr26, h⟩ := h
                refine v_callVv0 (st := []) cx (s_H_offer hr25 hr26 h) yk_H_offer lk_W_173 zl_21 rfl rfl rfl (Nat.le_of_ble_eq_true rfl) ⟨Nat.le_of_ble_eq_true rfl, Nat.le_of_ble_eq_true rfl⟩ ⟨rfl, rfl⟩ ⟨(Nat.le_of_ble_eq_true rfl), (Nat.le_of_ble_eq_true rfl)⟩ d_W_offerStepsTo_139 (fun σ27 h => ?_)
                refine v_iinc (lv' := [(0, .ref (ad 15)), (1, .int (zI place)), (2, .int (zI after)), (3, .int (zI layer)), (4, .int (zI key)), (5, .int (zI (y1 + 1))), (7, .int (zI x8)), (8, .int (zI w21))]) cx 5 d_W_offerStepsTo_142 rfl (by decide) rfl rfl ?_
                refine v_goto cx 3 d_W_offerStepsTo_145 (by decide) ?_
                refine v_sb (lv' := [(0, .ref (ad 15)), (1, .int (zI place)), (2, .int (zI after)), (3, .int (zI layer)), (4, .int (zI key)), (5, .int (zI (y1 + 1)))]) [0, 1, 2, 3, 4, 5] rfl ?_
                obtain ⟨hI2, hz29, hm2⟩ := h
                exact ih3 _ _ (Nat.lt_of_lt_of_le hm2 (Nat.le_of_lt_succ hmm3)) hI2 hz29
              refine v_icmp_eq cx 106 d_W_offerStepsTo_76 (by decide) hafter ⟨by decide, by decide⟩ (fun c30 => ?_) (fun c30 => ?_)
              · replace h := h.1 c30
                refine v_sb (lv' := [(0, .ref (ad 15)), (1, .int (zI place)), (2, .int (zI after)), (3, .int (zI layer)), (4, .int (zI key)), (5, .int (zI y1)), (7, .int (zI x8)), (8, .int (zI 0))]) [0, 1, 2, 3, 4, 5, 7, 8] rfl ?_
                have hJ2 := h
                exact G106 _ _ hJ2 ⟨by decide, by decide⟩
              · replace h := h.2 c30
                refine v_aload_n cx 0 d_W_offerStepsTo_79 rfl rfl ?_
                refine v_iload_n cx 1 d_W_offerStepsTo_80 rfl rfl ?_
                refine v_iload cx 5 d_W_offerStepsTo_81 rfl ?_
                refine v_iload_n cx 2 d_W_offerStepsTo_83 rfl rfl ?_
                refine v_callVz0 (st := []) cx (s_W_canBend hplace hy1 hafter h) yk_W_canBend lk_W_170 zl_15 rfl rfl rfl (Nat.le_of_ble_eq_true rfl) ⟨Nat.le_of_ble_eq_true rfl, Nat.le_of_ble_eq_true rfl⟩ ⟨rfl, rfl⟩ ⟨(Nat.le_of_ble_eq_true rfl), (Nat.le_of_ble_eq_true rfl)⟩ d_W_offerStepsTo_84 (fun r32 σ31 hr32 h => ?_)
                refine v_if_ne cx 93 d_W_offerStepsTo_87 (by decide) (zR_b hr32) (fun c33 => ?_) (fun c33 => ?_)
                · replace h := h.1 c33
                  refine v_aload_n cx 0 d_W_offerStepsTo_93 rfl rfl ?_
                  refine gf_W_30 cx d_W_offerStepsTo_94 ?_
                  refine v_iload cx 5 d_W_offerStepsTo_97 rfl ?_
                  refine v_iload_n cx 2 d_W_offerStepsTo_99 rfl rfl ?_
                  refine v_callNi0 (st := [.ref (ad 19)]) cx (s_R_eighths hy1 hafter h) yk_R_eighths ln_W_150 rfl rfl (Nat.le_of_ble_eq_true rfl) ⟨Nat.le_of_ble_eq_true rfl, Nat.le_of_ble_eq_true rfl⟩ ⟨rfl, rfl⟩ ⟨(Nat.le_of_ble_eq_true rfl), (Nat.le_of_ble_eq_true rfl)⟩ d_W_offerStepsTo_100 (fun r35 σ34 hr35 h => ?_)
                  obtain ⟨hb36, h⟩ := h
                  refine v_iald cx zl_19 (by decide) hb36.1 hb36.2 d_W_offerStepsTo_103 (fun hl37 => ?_)
                  refine v_nm (fun x38 ex38 => ?_)
                  replace h := h x38 ex38
                  have hx38 : zR x38 := by rw [ex38]; exact hl37
                  refine v_istore (lv' := [(0, .ref (ad 15)), (1, .int (zI place)), (2, .int (zI after)), (3, .int (zI layer)), (4, .int (zI key)), (5, .int (zI y1)), (6, .int (zI r7)), (7, .int (zI x8)), (8, .int (zI x38))]) cx d_W_offerStepsTo_104 (by decide) rfl rfl ?_
                  refine v_sb (lv' := [(0, .ref (ad 15)), (1, .int (zI place)), (2, .int (zI after)), (3, .int (zI layer)), (4, .int (zI key)), (5, .int (zI y1)), (7, .int (zI x8)), (8, .int (zI x38))]) [0, 1, 2, 3, 4, 5, 7, 8] rfl ?_
                  have hJ2 := h
                  exact G106 _ _ hJ2 hx38
                · replace h := h.2 c33
                  refine v_goto cx 142 d_W_offerStepsTo_90 (by decide) ?_
                  refine v_iinc (lv' := [(0, .ref (ad 15)), (1, .int (zI place)), (2, .int (zI after)), (3, .int (zI layer)), (4, .int (zI key)), (5, .int (zI (y1 + 1))), (6, .int (zI r7)), (7, .int (zI x8)), (8, .int (zI 0))]) cx 5 d_W_offerStepsTo_142 rfl (by decide) rfl rfl ?_
                  refine v_goto cx 3 d_W_offerStepsTo_145 (by decide) ?_
                  refine v_sb (lv' := [(0, .ref (ad 15)), (1, .int (zI place)), (2, .int (zI after)), (3, .int (zI layer)), (4, .int (zI key)), (5, .int (zI (y1 + 1)))]) [0, 1, 2, 3, 4, 5] rfl ?_
                  obtain ⟨hI2, hz40, hm2⟩ := h
                  exact ih3 _ _ (Nat.lt_of_lt_of_le hm2 (Nat.le_of_lt_succ hmm3)) hI2 hz40
            · replace h := h.2 c20
              refine v_goto cx 142 d_W_offerStepsTo_68 (by decide) ?_
              refine v_iinc (lv' := [(0, .ref (ad 15)), (1, .int (zI place)), (2, .int (zI after)), (3, .int (zI layer)), (4, .int (zI key)), (5, .int (zI (y1 + 1))), (6, .int (zI r7)), (7, .int (zI x8))]) cx 5 d_W_offerStepsTo_142 rfl (by decide) rfl rfl ?_
              refine v_goto cx 3 d_W_offerStepsTo_145 (by decide) ?_
              refine v_sb (lv' := [(0, .ref (ad 15)), (1, .int (zI place)), (2, .int (zI after)), (3, .int (zI layer)), (4, .int (zI key)), (5, .int (zI (y1 + 1)))]) [0, 1, 2, 3, 4, 5] rfl ?_
              obtain ⟨hI2, hz42, hm2⟩ := h
              exact ih3 _ _ (Nat.lt_of_lt_of_le hm2 (Nat.le_of_lt_succ hmm3)) hI2 hz42
  exact L3 _ _ _ (Nat.lt_succ_self _) h0 ⟨by decide, by decide⟩
def q_W_search (goal : Int) (stop : Int) (K : zS → Prop) (σ : zS) : Prop :=
  zR ((σ 15 12) * 648) ∧ (q_H_clear ((σ 15 12) * 648) (fun σ3 =>
      q_W_offerStepsTo goal (-1) 0 0 (fun σ4 =>
        ∃ (I25 : Int → zS → Prop) (μ25 : Int → zS → Nat), (I25 0 σ4) ∧ ∀ (y5 : Int) (σ6 : zS), I25 y5 σ6 → zR y5 → 
        (2592 ≤ y5 →
          K σ6) ∧ (y5 < 2592 →
          q_H_isEmpty (fun r9 σ8 =>
            (r9 ≠ 0 →
              K σ8) ∧ (r9 = 0 →
              q_H_poll (fun r12 σ11 =>
                zR (Int.tmod r12 648) ∧ (∀ x14 : Int, x14 = Int.tdiv (Int.tmod r12 648) 8 → zR x14 ∧ ((x14 ≠ stop →
                      q_H_key r12 (fun r18 σ17 =>
                        zR (Int.tdiv r12 648) ∧ (q_W_offerStepsTo x14 (zAnd r12 7) (Int.tdiv r12 648) r18 (fun σ20 =>
                            I25 (y5 + 1) σ20 ∧ zR (y5 + 1) ∧ μ25 (y5 + 1) σ20 < μ25 y5 σ6) σ17)) σ11) ∧ (x14 = stop →
                      K σ11)))) σ8)) σ6)) σ3) σ)
abbrev rm_W_search : Room := { frames := 3, cells := 0, slots := 0, locals := 74 }
set_option maxRecDepth 20000 in
set_option maxHeartbeats 4000000 in
theorem s_W_search {Ω : zO} {ad : Nat → Nat} {goal : Int} {stop : Int} {K : zS → Prop} {σ : zS} (hgoal : zR goal) (hstop : zR stop) (h : q_W_search goal stop K σ) : zMv Ω y_W_search (.code y_W_search c_W_search 6 none) rm_W_search zLy ad [.ref (ad 15), .int (zI goal), .int (zI stop)] σ K := by
  refine z_ofv (lv := [(0, .ref (ad 15)), (1, .int (zI goal)), (2, .int (zI stop))]) (by decide) rfl (Nat.le_of_ble_eq_true rfl) ?_
  intro Γ Q cx rt
  unfold q_W_search at h
  refine v_aload_n cx 0 d_W_search_0 rfl rfl ?_
  refine gf_W_41 cx d_W_search_1 ?_
  refine v_aload_n cx 0 d_W_search_4 rfl rfl ?_
  refine gf_W_54 cx d_W_search_5 (fun hl1 => ?_)
  refine v_sipush cx (by decide) d_W_search_8 ?_
  refine v_imul cx d_W_search_11 ?_
  obtain ⟨hr2, h⟩ := h
  refine v_callVv0 (st := []) cx (s_H_clear hr2 h) yk_H_clear lk_W_153 zl_21 rfl rfl rfl (Nat.le_of_ble_eq_true rfl) ⟨Nat.le_of_ble_eq_true rfl, Nat.le_of_ble_eq_true rfl⟩ ⟨rfl, rfl⟩ ⟨(Nat.le_of_ble_eq_true rfl), (Nat.le_of_ble_eq_true rfl)⟩ d_W_search_12 (fun σ3 h => ?_)
  refine v_aload_n cx 0 d_W_search_15 rfl rfl ?_
  refine v_iload_n cx 1 d_W_search_16 rfl rfl ?_
  refine v_iconst cx d_W_search_17 ?_
  refine v_iconst cx d_W_search_18 ?_
  refine v_iconst cx d_W_search_19 ?_
  refine v_callVv0 (st := []) cx (s_W_offerStepsTo hgoal ⟨by decide, by decide⟩ ⟨by decide, by decide⟩ ⟨by decide, by decide⟩ h) yk_W_offerStepsTo lk_W_156 zl_15 rfl rfl rfl (Nat.le_of_ble_eq_true rfl) ⟨Nat.le_of_ble_eq_true rfl, Nat.le_of_ble_eq_true rfl⟩ ⟨rfl, rfl⟩ ⟨(Nat.le_of_ble_eq_true rfl), (Nat.le_of_ble_eq_true rfl)⟩ d_W_search_20 (fun σ4 h => ?_)
  refine v_iconst cx d_W_search_23 ?_
  refine v_istore_n (lv' := [(0, .ref (ad 15)), (1, .int (zI goal)), (2, .int (zI stop)), (3, .int (zI 0))]) cx d_W_search_24 rfl (by decide) rfl rfl ?_
  refine v_sb (lv' := [(0, .ref (ad 15)), (2, .int (zI stop)), (3, .int (zI 0))]) [0, 2, 3] rfl ?_
  obtain ⟨I25, μ25, h0, h⟩ := h
  have L25 : ∀ (N25 : Nat) (y5 : Int) (σ6 : zS), μ25 y5 σ6 < N25 → I25 y5 σ6 → zR y5 → zV Ω Γ rm_W_search 6 Q 0 0 zLy ad σ6 25 [(0, .ref (ad 15)), (2, .int (zI stop)), (3, .int (zI y5))] [] := by
    intro N25
    induction N25 with
    | zero => intro y5 σ6 hm; exact absurd hm (Nat.not_lt_zero _)
    | succ N25 ih25 =>
      intro y5 σ6 hmm25 hI hy5
      replace h := h y5 σ6 hI hy5
      refine v_iload_n cx 2 d_W_search_25 rfl rfl ?_
      refine v_sipush cx (by decide) d_W_search_26 ?_
      refine v_icmp_ge cx 101 d_W_search_29 (by decide) hy5 ⟨by decide, by decide⟩ (fun c7 => ?_) (fun c7 => ?_)
      · replace h := h.1 c7
        exact rt _ _ _ _ _ (Nat.le_of_ble_eq_true rfl) (Nat.le_of_ble_eq_true rfl) d_W_search_101 h
      · replace h := h.2 c7
        refine v_aload_n cx 0 d_W_search_32 rfl rfl ?_
        refine gf_W_41 cx d_W_search_33 ?_
        refine v_callVz0 (st := []) cx (s_H_isEmpty  h) yk_H_isEmpty lk_W_160 zl_21 rfl rfl rfl (Nat.le_of_ble_eq_true rfl) ⟨Nat.le_of_ble_eq_true rfl, Nat.le_of_ble_eq_true rfl⟩ ⟨rfl, rfl⟩ ⟨(Nat.le_of_ble_eq_true rfl), (Nat.le_of_ble_eq_true rfl)⟩ d_W_search_36 (fun r9 σ8 hr9 h => ?_)
        refine v_if_ne cx 101 d_W_search_39 (by decide) (zR_b hr9) (fun c10 => ?_) (fun c10 => ?_)
        · replace h := h.1 c10
          exact rt _ _ _ _ _ (Nat.le_of_ble_eq_true rfl) (Nat.le_of_ble_eq_true rfl) d_W_search_101 h
        · replace h := h.2 c10
          refine v_aload_n cx 0 d_W_search_42 rfl rfl ?_
          refine gf_W_41 cx d_W_search_43 ?_
          refine v_callVi0 (st := []) cx (s_H_poll  h) yk_H_poll lk_W_164 zl_21 rfl rfl rfl (Nat.le_of_ble_eq_true rfl) ⟨Nat.le_of_ble_eq_true rfl, Nat.le_of_ble_eq_true rfl⟩ ⟨rfl, rfl⟩ ⟨(Nat.le_of_ble_eq_true rfl), (Nat.le_of_ble_eq_true rfl)⟩ d_W_search_46 (fun r12 σ11 hr12 h => ?_)
          refine v_istore (lv' := [(0, .ref (ad 15)), (2, .int (zI stop)), (3, .int (zI y5)), (4, .int (zI r12))]) cx d_W_search_49 (by decide) rfl rfl ?_
          refine v_iload cx 3 d_W_search_51 rfl ?_
          refine v_sipush cx (by decide) d_W_search_53 ?_
          refine v_irem cx d_W_search_56 hr12 ⟨by decide, by decide⟩ (by decide) ?_
          refine v_bipush cx (by decide) d_W_search_57 ?_
          obtain ⟨hr13, h⟩ := h
          refine v_idiv cx d_W_search_59 hr13 ⟨by decide, by decide⟩ (by decide) (Or.inr (by decide)) ?_
          refine v_nm (fun x14 ex14 => ?_)
          replace h := h x14 ex14
          refine v_istore (lv' := [(0, .ref (ad 15)), (2, .int (zI stop)), (3, .int (zI y5)), (4, .int (zI r12)), (5, .int (zI x14))]) cx d_W_search_60 (by decide) rfl rfl ?_
          refine v_iload cx 4 d_W_search_62 rfl ?_
          refine v_iload_n cx 1 d_W_search_64 rfl rfl ?_
          obtain ⟨hr15, h⟩ := h
          refine v_icmp_ne cx 69 d_W_search_65 (by decide) hr15 hstop (fun c16 => ?_) (fun c16 => ?_)
          · replace h := h.1 c16
            refine v_aload_n cx 0 d_W_search_69 rfl rfl ?_
            refine v_iload cx 4 d_W_search_70 rfl ?_
            refine v_iload cx 3 d_W_search_72 rfl ?_
            refine v_bipush cx (by decide) d_W_search_74 ?_
            refine v_iand cx d_W_search_76 ?_
            refine v_iload cx 3 d_W_search_77 rfl ?_
            refine v_sipush cx (by decide) d_W_search_79 ?_
            refine v_idiv cx d_W_search_82 hr12 ⟨by decide, by decide⟩ (by decide) (Or.inr (by decide)) ?_
            refine v_aload_n cx 0 d_W_search_83 rfl rfl ?_
            refine gf_W_41 cx d_W_search_84 ?_
            refine v_iload cx 3 d_W_search_87 rfl ?_
            refine v_callVi0 (st := [.int (zI (Int.tdiv r12 648)), .int (zI (zAnd r12 7)), .int (zI x14), .ref (ad 15)]) cx (s_H_key hr12 h) yk_H_key lk_W_167 zl_21 rfl rfl rfl (Nat.le_of_ble_eq_true rfl) ⟨Nat.le_of_ble_eq_true rfl, Nat.le_of_ble_eq_true rfl⟩ ⟨rfl, rfl⟩ ⟨(Nat.le_of_ble_eq_true rfl), (Nat.le_of_ble_eq_true rfl)⟩ d_W_search_89 (fun r18 σ17 hr18 h => ?_)
            obtain ⟨hr19, h⟩ := h
            refine v_callVv0 (st := []) cx (s_W_offerStepsTo hr15 (zR_and _ _) hr19 hr18 h) yk_W_offerStepsTo lk_W_156 zl_15 rfl rfl rfl (Nat.le_of_ble_eq_true rfl) ⟨Nat.le_of_ble_eq_true rfl, Nat.le_of_ble_eq_true rfl⟩ ⟨rfl, rfl⟩ ⟨(Nat.le_of_ble_eq_true rfl), (Nat.le_of_ble_eq_true rfl)⟩ d_W_search_92 (fun σ20 h => ?_)
            refine v_iinc (lv' := [(0, .ref (ad 15)), (2, .int (zI stop)), (3, .int (zI (y5 + 1))), (4, .int (zI r12)), (5, .int (zI x14))]) cx 2 d_W_search_95 rfl (by decide) rfl rfl ?_
            refine v_goto cx 25 d_W_search_98 (by decide) ?_
            refine v_sb (lv' := [(0, .ref (ad 15)), (2, .int (zI stop)), (3, .int (zI (y5 + 1)))]) [0, 1, 2] rfl ?_
            obtain ⟨hI2, hz22, hm2⟩ := h
            exact ih25 _ _ (Nat.lt_of_lt_of_le hm2 (Nat.le_of_lt_succ hmm25)) hI2 hz22
          · replace h := h.2 c16
            exact rt _ _ _ _ _ (Nat.le_of_ble_eq_true rfl) (Nat.le_of_ble_eq_true rfl) d_W_search_68 h
  exact L25 _ _ _ (Nat.lt_succ_self _) h0 ⟨by decide, by decide⟩
def q_W_measure (from_ : Int) (to_ : Int) (kind : Int) (K : Int → zS → Prop) (σ : zS) : Prop :=
  q_L_value 0 (fun r2 σ1 =>
    q_W_prepare kind r2 0 (fun σ3 =>
      q_W_search to_ from_ (fun σ4 =>
        q_W_left from_ (fun r6 σ5 =>
          K r6 σ5) σ4) σ3) σ1) σ
abbrev rm_W_measure : Room := { frames := 4, cells := 0, slots := 0, locals := 101 }
set_option maxRecDepth 20000 in
set_option maxHeartbeats 4000000 in
theorem s_W_measure {Ω : zO} {ad : Nat → Nat} {from_ : Int} {to_ : Int} {kind : Int} {K : Int → zS → Prop} {σ : zS} (hfrom_ : zR from_) (hto_ : zR to_) (hkind : zR kind) (h : q_W_measure from_ to_ kind K σ) : zMi Ω y_W_measure (.code y_W_measure c_W_measure 4 (some .int)) rm_W_measure zLy ad [.ref (ad 15), .int (zI from_), .int (zI to_), .int (zI kind)] σ K := by
  refine z_ofi (lv := [(0, .ref (ad 15)), (1, .int (zI from_)), (2, .int (zI to_)), (3, .int (zI kind))]) (by decide) rfl (Nat.le_of_ble_eq_true rfl) ?_
  intro Γ Q cx rt
  unfold q_W_measure at h
  refine v_aload_n cx 0 d_W_measure_0 rfl rfl ?_
  refine v_iload_n cx 3 d_W_measure_1 rfl rfl ?_
  refine v_aload_n cx 0 d_W_measure_2 rfl rfl ?_
  refine gf_W_9 cx d_W_measure_3 ?_
  refine v_iconst cx d_W_measure_6 ?_
  refine v_callVi0 (st := [.int (zI kind), .ref (ad 15)]) cx (s_L_value ⟨by decide, by decide⟩ h) yk_L_value lk_W_61 zl_3 rfl rfl rfl (Nat.le_of_ble_eq_true rfl) ⟨Nat.le_of_ble_eq_true rfl, Nat.le_of_ble_eq_true rfl⟩ ⟨rfl, rfl⟩ ⟨(Nat.le_of_ble_eq_true rfl), (Nat.le_of_ble_eq_true rfl)⟩ d_W_measure_7 (fun r2 σ1 hr2 h => ?_)
  refine v_iconst cx d_W_measure_10 ?_
  refine v_callVv0 (st := []) cx (s_W_prepare hkind hr2 (Or.inl rfl) h) yk_W_prepare lk_W_67 zl_15 rfl rfl rfl (Nat.le_of_ble_eq_true rfl) ⟨Nat.le_of_ble_eq_true rfl, Nat.le_of_ble_eq_true rfl⟩ ⟨rfl, rfl⟩ ⟨(Nat.le_of_ble_eq_true rfl), (Nat.le_of_ble_eq_true rfl)⟩ d_W_measure_11 (fun σ3 h => ?_)
  refine v_aload_n cx 0 d_W_measure_14 rfl rfl ?_
  refine v_iload_n cx 2 d_W_measure_15 rfl rfl ?_
  refine v_iload_n cx 1 d_W_measure_16 rfl rfl ?_
  refine v_callVv0 (st := []) cx (s_W_search hto_ hfrom_ h) yk_W_search lk_W_71 zl_15 rfl rfl rfl (Nat.le_of_ble_eq_true rfl) ⟨Nat.le_of_ble_eq_true rfl, Nat.le_of_ble_eq_true rfl⟩ ⟨rfl, rfl⟩ ⟨(Nat.le_of_ble_eq_true rfl), (Nat.le_of_ble_eq_true rfl)⟩ d_W_measure_17 (fun σ4 h => ?_)
  refine v_aload_n cx 0 d_W_measure_20 rfl rfl ?_
  refine v_iload_n cx 1 d_W_measure_21 rfl rfl ?_
  refine v_callVi0 (st := []) cx (s_W_left hfrom_ h) yk_W_left lk_W_75 zl_15 rfl rfl rfl (Nat.le_of_ble_eq_true rfl) ⟨Nat.le_of_ble_eq_true rfl, Nat.le_of_ble_eq_true rfl⟩ ⟨rfl, rfl⟩ ⟨(Nat.le_of_ble_eq_true rfl), (Nat.le_of_ble_eq_true rfl)⟩ d_W_measure_22 (fun r6 σ5 hr6 h => ?_)
  exact rt _ _ _ _ _ _ (Nat.le_of_ble_eq_true rfl) (Nat.le_of_ble_eq_true rfl) d_W_measure_25 hr6 h
def q_W_firstHeading (place : Int) (before : Int) (key : Int) (K : Int → zS → Prop) (σ : zS) : Prop :=
  ∃ (I10 : Int → Int → Int → zS → Prop) (μ10 : Int → Int → Int → zS → Nat), (I10 (-1) 81 0 σ) ∧ ∀ (y1 y2 y3 : Int) (σ4 : zS), I10 y1 y2 y3 σ4 → zR y1 → zR y2 → zR y3 → 
  (8 ≤ y3 →
    K y1 σ4) ∧ (y3 < 8 →
    ∀ x6 : Int, x6 = (place * 8) + y3 → (0 ≤ x6 ∧ x6 < 648) ∧ (((σ4 16 x6) = (-1) →
        I10 y1 y2 (y3 + 1) σ4 ∧ zR (y3 + 1) ∧ μ10 y1 y2 (y3 + 1) σ4 < μ10 y1 y2 y3 σ4) ∧ ((σ4 16 x6) ≠ (-1) →
        ∃ J56 : zS → Prop, (∀ (σ12 : zS), J56 σ12 → 
          ∃ J76 : Int → zS → Prop, (∀ (w13 : Int) (σ14 : zS), J76 w13 σ14 → zR w13 → 
            q_L_besideOf place y3 (fun r16 σ15 =>
              zR x6 ∧ (q_H_key x6 (fun r19 σ18 =>
                  zR (r19 + w13) ∧ (((r19 + w13) ≠ key →
                      I10 y1 y2 (y3 + 1) σ18 ∧ zR (y3 + 1) ∧ μ10 y1 y2 (y3 + 1) σ18 < μ10 y1 y2 y3 σ4) ∧ ((r19 + w13) = key →
                      (y2 ≤ r16 →
                        I10 y1 y2 (y3 + 1) σ18 ∧ zR (y3 + 1) ∧ μ10 y1 y2 (y3 + 1) σ18 < μ10 y1 y2 y3 σ4) ∧ (r16 < y2 →
                        I10 y3 r16 (y3 + 1) σ18 ∧ zR (y3 + 1) ∧ μ10 y3 r16 (y3 + 1) σ18 < μ10 y1 y2 y3 σ4)))) σ15)) σ14) ∧
          ((before ≠ (-1) →
              q_R_eighths before y3 (fun r31 σ30 =>
                (0 ≤ r31 ∧ r31 < 5) ∧ (J76 (σ30 19 r31) σ30)) σ12) ∧ (before = (-1) →
              J76 0 σ12))) ∧
        ((before = (-1) →
            J56 σ4) ∧ (before ≠ (-1) →
            q_W_canBend place before y3 (fun r36 σ35 =>
              (r36 ≠ 0 →
                J56 σ35) ∧ (r36 = 0 →
                I10 y1 y2 (y3 + 1) σ35 ∧ zR (y3 + 1) ∧ μ10 y1 y2 (y3 + 1) σ35 < μ10 y1 y2 y3 σ4)) σ4)))))
abbrev rm_W_firstHeading : Room := { frames := 2, cells := 0, slots := 0, locals := 45 }
set_option maxRecDepth 20000 in
set_option maxHeartbeats 4000000 in
theorem s_W_firstHeading {Ω : zO} {ad : Nat → Nat} {place : Int} {before : Int} {key : Int} {K : Int → zS → Prop} {σ : zS} (hplace : zR place) (hbefore : zR before) (hkey : zR key) (h : q_W_firstHeading place before key K σ) : zMi Ω y_W_firstHeading (.code y_W_firstHeading c_W_firstHeading 10 (some .int)) rm_W_firstHeading zLy ad [.ref (ad 15), .int (zI place), .int (zI before), .int (zI key)] σ K := by
  refine z_ofi (lv := [(0, .ref (ad 15)), (1, .int (zI place)), (2, .int (zI before)), (3, .int (zI key))]) (by decide) rfl (Nat.le_of_ble_eq_true rfl) ?_
  intro Γ Q cx rt
  unfold q_W_firstHeading at h
  refine v_iconst cx d_W_firstHeading_0 ?_
  refine v_istore (lv' := [(0, .ref (ad 15)), (1, .int (zI place)), (2, .int (zI before)), (3, .int (zI key)), (4, .int (zI (-1)))]) cx d_W_firstHeading_1 (by decide) rfl rfl ?_
  refine v_bipush cx (by decide) d_W_firstHeading_3 ?_
  refine v_istore (lv' := [(0, .ref (ad 15)), (1, .int (zI place)), (2, .int (zI before)), (3, .int (zI key)), (4, .int (zI (-1))), (5, .int (zI 81))]) cx d_W_firstHeading_5 (by decide) rfl rfl ?_
  refine v_iconst cx d_W_firstHeading_7 ?_
  refine v_istore (lv' := [(0, .ref (ad 15)), (1, .int (zI place)), (2, .int (zI before)), (3, .int (zI key)), (4, .int (zI (-1))), (5, .int (zI 81)), (6, .int (zI 0))]) cx d_W_firstHeading_8 (by decide) rfl rfl ?_
  obtain ⟨I10, μ10, h0, h⟩ := h
  have L10 : ∀ (N10 : Nat) (y1 y2 y3 : Int) (σ4 : zS), μ10 y1 y2 y3 σ4 < N10 → I10 y1 y2 y3 σ4 → zR y1 → zR y2 → zR y3 → zV Ω Γ rm_W_firstHeading 10 Q 0 0 zLy ad σ4 10 [(0, .ref (ad 15)), (1, .int (zI place)), (2, .int (zI before)), (3, .int (zI key)), (4, .int (zI y1)), (5, .int (zI y2)), (6, .int (zI y3))] [] := by
    intro N10
    induction N10 with
    | zero => intro y1 y2 y3 σ4 hm; exact absurd hm (Nat.not_lt_zero _)
    | succ N10 ih10 =>
      intro y1 y2 y3 σ4 hmm10 hI hy1 hy2 hy3
      replace h := h y1 y2 y3 σ4 hI hy1 hy2 hy3
      refine v_iload cx 6 d_W_firstHeading_10 rfl ?_
      refine v_bipush cx (by decide) d_W_firstHeading_12 ?_
      refine v_icmp_ge cx 127 d_W_firstHeading_14 (by decide) hy3 ⟨by decide, by decide⟩ (fun c5 => ?_) (fun c5 => ?_)
      · replace h := h.1 c5
        refine v_iload cx 4 d_W_firstHeading_127 rfl ?_
        exact rt _ _ _ _ _ _ (Nat.le_of_ble_eq_true rfl) (Nat.le_of_ble_eq_true rfl) d_W_firstHeading_129 hy1 h
      · replace h := h.2 c5
        refine v_iload_n cx 1 d_W_firstHeading_17 rfl rfl ?_
        refine v_bipush cx (by decide) d_W_firstHeading_18 ?_
        refine v_imul cx d_W_firstHeading_20 ?_
        refine v_iload cx 6 d_W_firstHeading_21 rfl ?_
        refine v_iadd cx d_W_firstHeading_23 ?_
        refine v_nm (fun x6 ex6 => ?_)
        replace h := h x6 ex6
        refine v_istore (lv' := [(0, .ref (ad 15)), (1, .int (zI place)), (2, .int (zI before)), (3, .int (zI key)), (4, .int (zI y1)), (5, .int (zI y2)), (6, .int (zI y3)), (7, .int (zI x6))]) cx d_W_firstHeading_24 (by decide) rfl rfl ?_
        refine v_aload_n cx 0 d_W_firstHeading_26 rfl rfl ?_
        refine gf_W_19 cx d_W_firstHeading_27 ?_
        refine v_iload cx 7 d_W_firstHeading_30 rfl ?_
        obtain ⟨hb7, h⟩ := h
        refine v_iald cx zl_16 (by decide) hb7.1 hb7.2 d_W_firstHeading_32 (fun hl8 => ?_)
        refine v_iconst cx d_W_firstHeading_33 ?_
        refine v_icmp_eq cx 121 d_W_firstHeading_34 (by decide) hl8 ⟨by decide, by decide⟩ (fun c9 => ?_) (fun c9 => ?_)
        · replace h := h.1 c9
          refine v_iinc (lv' := [(0, .ref (ad 15)), (1, .int (zI place)), (2, .int (zI before)), (3, .int (zI key)), (4, .int (zI y1)), (5, .int (zI y2)), (6, .int (zI (y3 + 1))), (7, .int (zI x6))]) cx 6 d_W_firstHeading_121 rfl (by decide) rfl rfl ?_
          refine v_goto cx 10 d_W_firstHeading_124 (by decide) ?_
          refine v_sb (lv' := [(0, .ref (ad 15)), (1, .int (zI place)), (2, .int (zI before)), (3, .int (zI key)), (4, .int (zI y1)), (5, .int (zI y2)), (6, .int (zI (y3 + 1)))]) [0, 1, 2, 3, 4, 5, 6] rfl ?_
          obtain ⟨hI2, hz11, hm2⟩ := h
          exact ih10 _ _ _ _ (Nat.lt_of_lt_of_le hm2 (Nat.le_of_lt_succ hmm10)) hI2 hy1 hy2 hz11
        · replace h := h.2 c9
          refine v_iload_n cx 2 d_W_firstHeading_37 rfl rfl ?_
          refine v_iconst cx d_W_firstHeading_38 ?_
          obtain ⟨J56, hJ56, h⟩ := h
          have G56 : ∀ (σ12 : zS), J56 σ12 → zV Ω Γ rm_W_firstHeading 10 Q 0 0 zLy ad σ12 56 [(0, .ref (ad 15)), (1, .int (zI place)), (2, .int (zI before)), (3, .int (zI key)), (4, .int (zI y1)), (5, .int (zI y2)), (6, .int (zI y3)), (7, .int (zI x6))] [] := by
            intro σ12 hJ 
            replace h := hJ56 σ12 hJ 
            refine v_iload_n cx 2 d_W_firstHeading_56 rfl rfl ?_
            refine v_iconst cx d_W_firstHeading_57 ?_
            obtain ⟨J76, hJ76, h⟩ := h
            have G76 : ∀ (w13 : Int) (σ14 : zS), J76 w13 σ14 → zR w13 → zV Ω Γ rm_W_firstHeading 10 Q 0 0 zLy ad σ14 76 [(0, .ref (ad 15)), (1, .int (zI place)), (2, .int (zI before)), (3, .int (zI key)), (4, .int (zI y1)), (5, .int (zI y2)), (6, .int (zI y3)), (7, .int (zI x6))] [.int (zI w13)] := by
              intro w13 σ14 hJ hw13
              replace h := hJ76 w13 σ14 hJ hw13
              refine v_istore (lv' := [(0, .ref (ad 15)), (1, .int (zI place)), (2, .int (zI before)), (3, .int (zI key)), (4, .int (zI y1)), (5, .int (zI y2)), (6, .int (zI y3)), (7, .int (zI x6)), (8, .int (zI w13))]) cx d_W_firstHeading_76 (by decide) rfl rfl ?_
              refine v_aload_n cx 0 d_W_firstHeading_78 rfl rfl ?_
              refine gf_W_9 cx d_W_firstHeading_79 ?_
              refine v_iload_n cx 1 d_W_firstHeading_82 rfl rfl ?_
              refine v_iload cx 6 d_W_firstHeading_83 rfl ?_
              refine v_callVi0 (st := []) cx (s_L_besideOf hplace hy3 h) yk_L_besideOf lk_W_119 zl_3 rfl rfl rfl (Nat.le_of_ble_eq_true rfl) ⟨Nat.le_of_ble_eq_true rfl, Nat.le_of_ble_eq_true rfl⟩ ⟨rfl, rfl⟩ ⟨(Nat.le_of_ble_eq_true rfl), (Nat.le_of_ble_eq_true rfl)⟩ d_W_firstHeading_85 (fun r16 σ15 hr16 h => ?_)
              refine v_istore (lv' := [(0, .ref (ad 15)), (1, .int (zI place)), (2, .int (zI before)), (3, .int (zI key)), (4, .int (zI y1)), (5, .int (zI y2)), (6, .int (zI y3)), (7, .int (zI x6)), (8, .int (zI w13)), (9, .int (zI r16))]) cx d_W_firstHeading_88 (by decide) rfl rfl ?_
              refine v_aload_n cx 0 d_W_firstHeading_90 rfl rfl ?_
              refine gf_W_41 cx d_W_firstHeading_91 ?_
              refine v_iload cx 7 d_W_firstHeading_94 rfl ?_
              obtain ⟨hr17, h⟩ := h
              refine v_callVi0 (st := []) cx (s_H_key hr17 h) yk_H_key lk_W_167 zl_21 rfl rfl rfl (Nat.le_of_ble_eq_true rfl) ⟨Nat.le_of_ble_eq_true rfl, Nat.le_of_ble_eq_true rfl⟩ ⟨rfl, rfl⟩ ⟨(Nat.le_of_ble_eq_true rfl), (Nat.le_of_ble_eq_true rfl)⟩ d_W_firstHeading_96 (fun r19 σ18 hr19 h => ?_)
              refine v_iload cx 8 d_W_firstHeading_99 rfl ?_
              refine v_iadd cx d_W_firstHeading_101 ?_
              refine v_iload_n cx 3 d_W_firstHeading_102 rfl rfl ?_
              obtain ⟨hr20, h⟩ := h
              refine v_icmp_ne cx 121 d_W_firstHeading_103 (by decide) hr20 hkey (fun c21 => ?_) (fun c21 => ?_)
              · replace h := h.1 c21
                refine v_iinc (lv' := [(0, .ref (ad 15)), (1, .int (zI place)), (2, .int (zI before)), (3, .int (zI key)), (4, .int (zI y1)), (5, .int (zI y2)), (6, .int (zI (y3 + 1))), (7, .int (zI x6)), (8, .int (zI w13)), (9, .int (zI r16))]) cx 6 d_W_firstHeading_121 rfl (by decide) rfl rfl ?_
                refine v_goto cx 10 d_W_firstHeading_124 (by decide) ?_
                refine v_sb (lv' := [(0, .ref (ad 15)), (1, .int (zI place)), (2, .int (zI before)), (3, .int (zI key)), (4, .int (zI y1)), (5, .int (zI y2)), (6, .int (zI (y3 + 1)))]) [0, 1, 2, 3, 4, 5, 6] rfl ?_
                obtain ⟨hI2, hz23, hm2⟩ := h
                exact ih10 _ _ _ _ (Nat.lt_of_lt_of_le hm2 (Nat.le_of_lt_succ hmm10)) hI2 hy1 hy2 hz23
              · replace h := h.2 c21
                refine v_iload cx 9 d_W_firstHeading_106 rfl ?_
                refine v_iload cx 5 d_W_firstHeading_108 rfl ?_
                refine v_icmp_ge cx 121 d_W_firstHeading_110 (by decide) hr16 hy2 (fun c24 => ?_) (fun c24 => ?_)
                · replace h := h.1 c24
                  refine v_iinc (lv' := [(0, .ref (ad 15)), (1, .int (zI place)), (2, .int (zI before)), (3, .int (zI key)), (4, .int (zI y1)), (5, .int (zI y2)), (6, .int (zI (y3 + 1))), (7, .int (zI x6)), (8, .int (zI w13)), (9, .int (zI r16))]) cx 6 d_W_firstHeading_121 rfl (by decide) rfl rfl ?_
                  refine v_goto cx 10 d_W_firstHeading_124 (by decide) ?_
                  refine v_sb (lv' := [(0, .ref (ad 15)), (1, .int (zI place)), (2, .int (zI before)), (3, .int (zI key)), (4, .int (zI y1)), (5, .int (zI y2)), (6, .int (zI (y3 + 1)))]) [0, 1, 2, 3, 4, 5, 6] rfl ?_
                  obtain ⟨hI2, hz26, hm2⟩ := h
                  exact ih10 _ _ _ _ (Nat.lt_of_lt_of_le hm2 (Nat.le_of_lt_succ hmm10)) hI2 hy1 hy2 hz26
                · replace h := h.2 c24
                  refine v_iload cx 6 d_W_firstHeading_113 rfl ?_
                  refine v_istore (lv' := [(0, .ref (ad 15)), (1, .int (zI place)), (2, .int (zI before)), (3, .int (zI key)), (4, .int (zI y3)), (5, .int (zI y2)), (6, .int (zI y3)), (7, .int (zI x6)), (8, .int (zI w13)), (9, .int (zI r16))]) cx d_W_firstHeading_115 (by decide) rfl rfl ?_
                  refine v_iload cx 9 d_W_firstHeading_117 rfl ?_
                  refine v_istore (lv' := [(0, .ref (ad 15)), (1, .int (zI place)), (2, .int (zI before)), (3, .int (zI key)), (4, .int (zI y3)), (5, .int (zI r16)), (6, .int (zI y3)), (7, .int (zI x6)), (8, .int (zI w13)), (9, .int (zI r16))]) cx d_W_firstHeading_119 (by decide) rfl rfl ?_
                  refine v_iinc (lv' := [(0, .ref (ad 15)), (1, .int (zI place)), (2, .int (zI before)), (3, .int (zI key)), (4, .int (zI y3)), (5, .int (zI r16)), (6, .int (zI (y3 + 1))), (7, .int (zI x6)), (8, .int (zI w13)), (9, .int (zI r16))]) cx 6 d_W_firstHeading_121 rfl (by decide) rfl rfl ?_
                  refine v_goto cx 10 d_W_firstHeading_124 (by decide) ?_
                  refine v_sb (lv' := [(0, .ref (ad 15)), (1, .int (zI place)), (2, .int (zI before)), (3, .int (zI key)), (4, .int (zI y3)), (5, .int (zI r16)), (6, .int (zI (y3 + 1)))]) [0, 1, 2, 3, 4, 5, 6] rfl ?_
                  obtain ⟨hI2, hz28, hm2⟩ := h
                  exact ih10 _ _ _ _ (Nat.lt_of_lt_of_le hm2 (Nat.le_of_lt_succ hmm10)) hI2 hy3 hr16 hz28
            refine v_icmp_ne cx 65 d_W_firstHeading_58 (by decide) hbefore ⟨by decide, by decide⟩ (fun c29 => ?_) (fun c29 => ?_)
            · replace h := h.1 c29
              refine v_aload_n cx 0 d_W_firstHeading_65 rfl rfl ?_
              refine gf_W_30 cx d_W_firstHeading_66 ?_
              refine v_iload_n cx 2 d_W_firstHeading_69 rfl rfl ?_
              refine v_iload cx 6 d_W_firstHeading_70 rfl ?_
              refine v_callNi0 (st := [.ref (ad 19)]) cx (s_R_eighths hbefore hy3 h) yk_R_eighths ln_W_150 rfl rfl (Nat.le_of_ble_eq_true rfl) ⟨Nat.le_of_ble_eq_true rfl, Nat.le_of_ble_eq_true rfl⟩ ⟨rfl, rfl⟩ ⟨(Nat.le_of_ble_eq_true rfl), (Nat.le_of_ble_eq_true rfl)⟩ d_W_firstHeading_72 (fun r31 σ30 hr31 h => ?_)
              obtain ⟨hb32, h⟩ := h
              refine v_iald cx zl_19 (by decide) hb32.1 hb32.2 d_W_firstHeading_75 (fun hl33 => ?_)
              have hJ2 := h
              exact G76 _ _ hJ2 hl33
            · replace h := h.2 c29
              refine v_iconst cx d_W_firstHeading_61 ?_
              refine v_goto cx 76 d_W_firstHeading_62 (by decide) ?_
              have hJ2 := h
              exact G76 _ _ hJ2 ⟨by decide, by decide⟩
          refine v_icmp_eq cx 56 d_W_firstHeading_39 (by decide) hbefore ⟨by decide, by decide⟩ (fun c34 => ?_) (fun c34 => ?_)
          · replace h := h.1 c34
            have hJ2 := h
            exact G56 _ hJ2 
          · replace h := h.2 c34
            refine v_aload_n cx 0 d_W_firstHeading_42 rfl rfl ?_
            refine v_iload_n cx 1 d_W_firstHeading_43 rfl rfl ?_
            refine v_iload_n cx 2 d_W_firstHeading_44 rfl rfl ?_
            refine v_iload cx 6 d_W_firstHeading_45 rfl ?_
            refine v_callVz0 (st := []) cx (s_W_canBend hplace hbefore hy3 h) yk_W_canBend lk_W_170 zl_15 rfl rfl rfl (Nat.le_of_ble_eq_true rfl) ⟨Nat.le_of_ble_eq_true rfl, Nat.le_of_ble_eq_true rfl⟩ ⟨rfl, rfl⟩ ⟨(Nat.le_of_ble_eq_true rfl), (Nat.le_of_ble_eq_true rfl)⟩ d_W_firstHeading_47 (fun r36 σ35 hr36 h => ?_)
            refine v_if_ne cx 56 d_W_firstHeading_50 (by decide) (zR_b hr36) (fun c37 => ?_) (fun c37 => ?_)
            · replace h := h.1 c37
              have hJ2 := h
              exact G56 _ hJ2 
            · replace h := h.2 c37
              refine v_goto cx 121 d_W_firstHeading_53 (by decide) ?_
              refine v_iinc (lv' := [(0, .ref (ad 15)), (1, .int (zI place)), (2, .int (zI before)), (3, .int (zI key)), (4, .int (zI y1)), (5, .int (zI y2)), (6, .int (zI (y3 + 1))), (7, .int (zI x6))]) cx 6 d_W_firstHeading_121 rfl (by decide) rfl rfl ?_
              refine v_goto cx 10 d_W_firstHeading_124 (by decide) ?_
              refine v_sb (lv' := [(0, .ref (ad 15)), (1, .int (zI place)), (2, .int (zI before)), (3, .int (zI key)), (4, .int (zI y1)), (5, .int (zI y2)), (6, .int (zI (y3 + 1)))]) [0, 1, 2, 3, 4, 5, 6] rfl ?_
              obtain ⟨hI2, hz39, hm2⟩ := h
              exact ih10 _ _ _ _ (Nat.lt_of_lt_of_le hm2 (Nat.le_of_lt_succ hmm10)) hI2 hy1 hy2 hz39
  exact L10 _ _ _ _ _ (Nat.lt_succ_self _) h0 ⟨by decide, by decide⟩ ⟨by decide, by decide⟩ ⟨by decide, by decide⟩
def q_W_walk (from_ : Int) (to_ : Int) (K : zS → Prop) (σ : zS) : Prop :=
  ∀ σ1 : zS, σ1 = zU σ 15 13 0 → q_W_leastKey from_ (fun r3 σ2 =>
    (r3 ≠ 1000000000 →
      ∀ σ5 : zS, σ5 = zU σ2 25 0 from_ → ∀ σ6 : zS, σ6 = zU σ5 15 13 1 → ∃ (I39 : Int → Int → Int → Int → zS → Prop) (μ39 : Int → Int → Int → Int → zS → Nat), (I39 r3 from_ (-1) 1 σ6) ∧ ∀ (y7 y8 y9 y10 : Int) (σ11 : zS), I39 y7 y8 y9 y10 σ11 → zR y7 → zR y8 → zR y9 → zR y10 → 
      (649 ≤ y10 →
        K σ11) ∧ (y10 < 649 →
        (y8 = to_ →
          K σ11) ∧ (y8 ≠ to_ →
          q_W_firstHeading y8 y9 y7 (fun r15 σ14 =>
            (r15 ≠ (-1) →
              ∀ x17 : Int, x17 = (y8 * 8) + r15 → zR x17 ∧ (q_H_key x17 (fun r20 σ19 =>
                  (0 ≤ x17 ∧ x17 < 648) ∧ (∀ x23 : Int, x23 = r20 - (σ19 16 x17) → q_L_besideOf y8 r15 (fun r25 σ24 =>
                      (0 ≤ y10 ∧ y10 < 649) ∧ (∀ σ27 : zS, σ27 = zU σ24 25 y10 r25 → zR (y10 + 1) ∧ (∀ σ29 : zS, σ29 = zU σ27 15 13 (y10 + 1) → I39 x23 r25 r15 (y10 + 1) σ29 ∧ zR x23 ∧ μ39 x23 r25 r15 (y10 + 1) σ29 < μ39 y7 y8 y9 y10 σ11))) σ19)) σ14)) ∧ (r15 = (-1) →
              K σ14)) σ11))) ∧ (r3 = 1000000000 →
      K σ2)) σ1
abbrev rm_W_walk : Room := { frames := 3, cells := 0, slots := 0, locals := 74 }
set_option maxRecDepth 20000 in
set_option maxHeartbeats 4000000 in
theorem s_W_walk {Ω : zO} {ad : Nat → Nat} {from_ : Int} {to_ : Int} {K : zS → Prop} {σ : zS} (hfrom_ : zR from_) (hto_ : zR to_) (h : q_W_walk from_ to_ K σ) : zMv Ω y_W_walk (.code y_W_walk c_W_walk 8 none) rm_W_walk zLy ad [.ref (ad 15), .int (zI from_), .int (zI to_)] σ K := by
  refine z_ofv (lv := [(0, .ref (ad 15)), (1, .int (zI from_)), (2, .int (zI to_))]) (by decide) rfl (Nat.le_of_ble_eq_true rfl) ?_
  intro Γ Q cx rt
  unfold q_W_walk at h
  refine v_aload_n cx 0 d_W_walk_0 rfl rfl ?_
  refine v_iconst cx d_W_walk_1 ?_
  refine pf_W_58 cx ⟨by decide, by decide⟩ d_W_walk_2 ?_
  refine v_ns (fun σ1 eσ1 => ?_)
  replace h := h σ1 eσ1
  refine v_aload_n cx 0 d_W_walk_5 rfl rfl ?_
  refine v_iload_n cx 1 d_W_walk_6 rfl rfl ?_
  refine v_callVi0 (st := []) cx (s_W_leastKey hfrom_ h) yk_W_leastKey lk_W_182 zl_15 rfl rfl rfl (Nat.le_of_ble_eq_true rfl) ⟨Nat.le_of_ble_eq_true rfl, Nat.le_of_ble_eq_true rfl⟩ ⟨rfl, rfl⟩ ⟨(Nat.le_of_ble_eq_true rfl), (Nat.le_of_ble_eq_true rfl)⟩ d_W_walk_7 (fun r3 σ2 hr3 h => ?_)
  refine v_istore_n (lv' := [(0, .ref (ad 15)), (1, .int (zI from_)), (2, .int (zI to_)), (3, .int (zI r3))]) cx d_W_walk_10 rfl (by decide) rfl rfl ?_
  refine v_iload_n cx 3 d_W_walk_11 rfl rfl ?_
  refine v_ldc cx ct_W_176 d_W_walk_12 ?_
  refine v_icmp_ne cx 18 d_W_walk_14 (by decide) hr3 ⟨by decide, by decide⟩ (fun c4 => ?_) (fun c4 => ?_)
  · replace h := h.1 c4
    refine v_aload_n cx 0 d_W_walk_18 rfl rfl ?_
    refine gf_W_45 cx d_W_walk_19 ?_
    refine v_iconst cx d_W_walk_22 ?_
    refine v_iload_n cx 1 d_W_walk_23 rfl rfl ?_
    refine v_iast cx zl_25 (by decide) (by decide) (by decide) hfrom_ d_W_walk_24 ?_
    refine v_ns (fun σ5 eσ5 => ?_)
    replace h := h σ5 eσ5
    refine v_aload_n cx 0 d_W_walk_25 rfl rfl ?_
    refine v_iconst cx d_W_walk_26 ?_
    refine pf_W_58 cx ⟨by decide, by decide⟩ d_W_walk_27 ?_
    refine v_ns (fun σ6 eσ6 => ?_)
    replace h := h σ6 eσ6
    refine v_iload_n cx 1 d_W_walk_30 rfl rfl ?_
    refine v_istore (lv' := [(0, .ref (ad 15)), (1, .int (zI from_)), (2, .int (zI to_)), (3, .int (zI r3)), (4, .int (zI from_))]) cx d_W_walk_31 (by decide) rfl rfl ?_
    refine v_iconst cx d_W_walk_33 ?_
    refine v_istore (lv' := [(0, .ref (ad 15)), (1, .int (zI from_)), (2, .int (zI to_)), (3, .int (zI r3)), (4, .int (zI from_)), (5, .int (zI (-1)))]) cx d_W_walk_34 (by decide) rfl rfl ?_
    refine v_iconst cx d_W_walk_36 ?_
    refine v_istore (lv' := [(0, .ref (ad 15)), (1, .int (zI from_)), (2, .int (zI to_)), (3, .int (zI r3)), (4, .int (zI from_)), (5, .int (zI (-1))), (6, .int (zI 1))]) cx d_W_walk_37 (by decide) rfl rfl ?_
    refine v_sb (lv' := [(0, .ref (ad 15)), (2, .int (zI to_)), (3, .int (zI r3)), (4, .int (zI from_)), (5, .int (zI (-1))), (6, .int (zI 1))]) [0, 2, 3, 4, 5, 6] rfl ?_
    obtain ⟨I39, μ39, h0, h⟩ := h
    have L39 : ∀ (N39 : Nat) (y7 y8 y9 y10 : Int) (σ11 : zS), μ39 y7 y8 y9 y10 σ11 < N39 → I39 y7 y8 y9 y10 σ11 → zR y7 → zR y8 → zR y9 → zR y10 → zV Ω Γ rm_W_walk 8 Q 0 0 zLy ad σ11 39 [(0, .ref (ad 15)), (2, .int (zI to_)), (3, .int (zI y7)), (4, .int (zI y8)), (5, .int (zI y9)), (6, .int (zI y10))] [] := by
      intro N39
      induction N39 with
      | zero => intro y7 y8 y9 y10 σ11 hm; exact absurd hm (Nat.not_lt_zero _)
      | succ N39 ih39 =>
        intro y7 y8 y9 y10 σ11 hmm39 hI hy7 hy8 hy9 hy10
        replace h := h y7 y8 y9 y10 σ11 hI hy7 hy8 hy9 hy10
        refine v_iload cx 5 d_W_walk_39 rfl ?_
        refine v_aload_n cx 0 d_W_walk_41 rfl rfl ?_
        refine gf_W_45 cx d_W_walk_42 ?_
        refine v_alen cx zl_25 d_W_walk_45 ?_
        refine v_icmp_ge cx 137 d_W_walk_46 (by decide) hy10 ⟨by decide, by decide⟩ (fun c12 => ?_) (fun c12 => ?_)
        · replace h := h.1 c12
          exact rt _ _ _ _ _ (Nat.le_of_ble_eq_true rfl) (Nat.le_of_ble_eq_true rfl) d_W_walk_137 h
        · replace h := h.2 c12
          refine v_iload cx 3 d_W_walk_49 rfl ?_
          refine v_iload_n cx 1 d_W_walk_51 rfl rfl ?_
          refine v_icmp_eq cx 137 d_W_walk_52 (by decide) hy8 hto_ (fun c13 => ?_) (fun c13 => ?_)
          · replace h := h.1 c13
            exact rt _ _ _ _ _ (Nat.le_of_ble_eq_true rfl) (Nat.le_of_ble_eq_true rfl) d_W_walk_137 h
          · replace h := h.2 c13
            refine v_aload_n cx 0 d_W_walk_55 rfl rfl ?_
            refine v_iload cx 3 d_W_walk_56 rfl ?_
            refine v_iload cx 4 d_W_walk_58 rfl ?_
            refine v_iload_n cx 2 d_W_walk_60 rfl rfl ?_
            refine v_callVi0 (st := []) cx (s_W_firstHeading hy8 hy9 hy7 h) yk_W_firstHeading lk_W_185 zl_15 rfl rfl rfl (Nat.le_of_ble_eq_true rfl) ⟨Nat.le_of_ble_eq_true rfl, Nat.le_of_ble_eq_true rfl⟩ ⟨rfl, rfl⟩ ⟨(Nat.le_of_ble_eq_true rfl), (Nat.le_of_ble_eq_true rfl)⟩ d_W_walk_61 (fun r15 σ14 hr15 h => ?_)
            refine v_istore (lv' := [(0, .ref (ad 15)), (2, .int (zI to_)), (3, .int (zI y7)), (4, .int (zI y8)), (5, .int (zI r15)), (6, .int (zI y10))]) cx d_W_walk_64 (by decide) rfl rfl ?_
            refine v_iload cx 4 d_W_walk_66 rfl ?_
            refine v_iconst cx d_W_walk_68 ?_
            refine v_icmp_ne cx 73 d_W_walk_69 (by decide) hr15 ⟨by decide, by decide⟩ (fun c16 => ?_) (fun c16 => ?_)
            · replace h := h.1 c16
              refine v_iload cx 3 d_W_walk_73 rfl ?_
              refine v_bipush cx (by decide) d_W_walk_75 ?_
              refine v_imul cx d_W_walk_77 ?_
              refine v_iload cx 4 d_W_walk_78 rfl ?_
              refine v_iadd cx d_W_walk_80 ?_
              refine v_nm (fun x17 ex17 => ?_)
              replace h := h x17 ex17
              refine v_istore (lv' := [(0, .ref (ad 15)), (2, .int (zI to_)), (3, .int (zI y7)), (4, .int (zI y8)), (5, .int (zI r15)), (6, .int (zI y10)), (7, .int (zI x17))]) cx d_W_walk_81 (by decide) rfl rfl ?_
              refine v_aload_n cx 0 d_W_walk_83 rfl rfl ?_
              refine gf_W_41 cx d_W_walk_84 ?_
              refine v_iload cx 6 d_W_walk_87 rfl ?_
              obtain ⟨hr18, h⟩ := h
              refine v_callVi0 (st := []) cx (s_H_key hr18 h) yk_H_key lk_W_167 zl_21 rfl rfl rfl (Nat.le_of_ble_eq_true rfl) ⟨Nat.le_of_ble_eq_true rfl, Nat.le_of_ble_eq_true rfl⟩ ⟨rfl, rfl⟩ ⟨(Nat.le_of_ble_eq_true rfl), (Nat.le_of_ble_eq_true rfl)⟩ d_W_walk_89 (fun r20 σ19 hr20 h => ?_)
              refine v_aload_n cx 0 d_W_walk_92 rfl rfl ?_
              refine gf_W_19 cx d_W_walk_93 ?_
              refine v_iload cx 6 d_W_walk_96 rfl ?_
              obtain ⟨hb21, h⟩ := h
              refine v_iald cx zl_16 (by decide) hb21.1 hb21.2 d_W_walk_98 (fun hl22 => ?_)
              refine v_isub cx d_W_walk_99 ?_
              refine v_nm (fun x23 ex23 => ?_)
              replace h := h x23 ex23
              refine v_istore_n (lv' := [(0, .ref (ad 15)), (2, .int (zI to_)), (3, .int (zI x23)), (4, .int (zI y8)), (5, .int (zI r15)), (6, .int (zI y10)), (7, .int (zI x17))]) cx d_W_walk_100 rfl (by decide) rfl rfl ?_
              refine v_aload_n cx 0 d_W_walk_101 rfl rfl ?_
              refine gf_W_9 cx d_W_walk_102 ?_
              refine v_iload cx 3 d_W_walk_105 rfl ?_
              refine v_iload cx 4 d_W_walk_107 rfl ?_
              refine v_callVi0 (st := []) cx (s_L_besideOf hy8 hr15 h) yk_L_besideOf lk_W_119 zl_3 rfl rfl rfl (Nat.le_of_ble_eq_true rfl) ⟨Nat.le_of_ble_eq_true rfl, Nat.le_of_ble_eq_true rfl⟩ ⟨rfl, rfl⟩ ⟨(Nat.le_of_ble_eq_true rfl), (Nat.le_of_ble_eq_true rfl)⟩ d_W_walk_109 (fun r25 σ24 hr25 h => ?_)
              refine v_istore (lv' := [(0, .ref (ad 15)), (2, .int (zI to_)), (3, .int (zI x23)), (4, .int (zI r25)), (5, .int (zI r15)), (6, .int (zI y10)), (7, .int (zI x17))]) cx d_W_walk_112 (by decide) rfl rfl ?_
              refine v_aload_n cx 0 d_W_walk_114 rfl rfl ?_
              refine gf_W_45 cx d_W_walk_115 ?_
              refine v_iload cx 5 d_W_walk_118 rfl ?_
              refine v_iload cx 3 d_W_walk_120 rfl ?_
              obtain ⟨hb26, h⟩ := h
              refine v_iast cx zl_25 (by decide) hb26.1 hb26.2 hr25 d_W_walk_122 ?_
              refine v_ns (fun σ27 eσ27 => ?_)
              replace h := h σ27 eσ27
              refine v_aload_n cx 0 d_W_walk_123 rfl rfl ?_
              refine v_iload cx 5 d_W_walk_124 rfl ?_
              refine v_iconst cx d_W_walk_126 ?_
              refine v_iadd cx d_W_walk_127 ?_
              obtain ⟨hr28, h⟩ := h
              refine pf_W_58 cx hr28 d_W_walk_128 ?_
              refine v_ns (fun σ29 eσ29 => ?_)
              replace h := h σ29 eσ29
              refine v_iinc (lv' := [(0, .ref (ad 15)), (2, .int (zI to_)), (3, .int (zI x23)), (4, .int (zI r25)), (5, .int (zI r15)), (6, .int (zI (y10 + 1))), (7, .int (zI x17))]) cx 5 d_W_walk_131 rfl (by decide) rfl rfl ?_
              refine v_goto cx 39 d_W_walk_134 (by decide) ?_
              refine v_sb (lv' := [(0, .ref (ad 15)), (2, .int (zI to_)), (3, .int (zI x23)), (4, .int (zI r25)), (5, .int (zI r15)), (6, .int (zI (y10 + 1)))]) [0, 1, 2, 3, 4, 5] rfl ?_
              obtain ⟨hI2, hz31, hm2⟩ := h
              exact ih39 _ _ _ _ _ (Nat.lt_of_lt_of_le hm2 (Nat.le_of_lt_succ hmm39)) hI2 hz31 hr25 hr15 hr28
            · replace h := h.2 c16
              exact rt _ _ _ _ _ (Nat.le_of_ble_eq_true rfl) (Nat.le_of_ble_eq_true rfl) d_W_walk_72 h
    exact L39 _ _ _ _ _ _ (Nat.lt_succ_self _) h0 hr3 hfrom_ ⟨by decide, by decide⟩ ⟨by decide, by decide⟩
  · replace h := h.2 c4
    exact rt _ _ _ _ _ (Nat.le_of_ble_eq_true rfl) (Nat.le_of_ble_eq_true rfl) d_W_walk_17 h
def q_W_find (from_ : Int) (to_ : Int) (kind : Int) (K : Int → zS → Prop) (σ : zS) : Prop :=
  q_L_value 0 (fun r2 σ1 =>
    q_W_prepare kind r2 0 (fun σ3 =>
      q_W_search to_ from_ (fun σ4 =>
        q_W_walk from_ to_ (fun σ5 =>
          q_W_left from_ (fun r7 σ6 =>
            K r7 σ6) σ5) σ4) σ3) σ1) σ
abbrev rm_W_find : Room := { frames := 4, cells := 0, slots := 0, locals := 101 }
set_option maxRecDepth 20000 in
set_option maxHeartbeats 4000000 in
theorem s_W_find {Ω : zO} {ad : Nat → Nat} {from_ : Int} {to_ : Int} {kind : Int} {K : Int → zS → Prop} {σ : zS} (hfrom_ : zR from_) (hto_ : zR to_) (hkind : zR kind) (h : q_W_find from_ to_ kind K σ) : zMi Ω y_W_find (.code y_W_find c_W_find 4 (some .int)) rm_W_find zLy ad [.ref (ad 15), .int (zI from_), .int (zI to_), .int (zI kind)] σ K := by
  refine z_ofi (lv := [(0, .ref (ad 15)), (1, .int (zI from_)), (2, .int (zI to_)), (3, .int (zI kind))]) (by decide) rfl (Nat.le_of_ble_eq_true rfl) ?_
  intro Γ Q cx rt
  unfold q_W_find at h
  refine v_aload_n cx 0 d_W_find_0 rfl rfl ?_
  refine v_iload_n cx 3 d_W_find_1 rfl rfl ?_
  refine v_aload_n cx 0 d_W_find_2 rfl rfl ?_
  refine gf_W_9 cx d_W_find_3 ?_
  refine v_iconst cx d_W_find_6 ?_
  refine v_callVi0 (st := [.int (zI kind), .ref (ad 15)]) cx (s_L_value ⟨by decide, by decide⟩ h) yk_L_value lk_W_61 zl_3 rfl rfl rfl (Nat.le_of_ble_eq_true rfl) ⟨Nat.le_of_ble_eq_true rfl, Nat.le_of_ble_eq_true rfl⟩ ⟨rfl, rfl⟩ ⟨(Nat.le_of_ble_eq_true rfl), (Nat.le_of_ble_eq_true rfl)⟩ d_W_find_7 (fun r2 σ1 hr2 h => ?_)
  refine v_iconst cx d_W_find_10 ?_
  refine v_callVv0 (st := []) cx (s_W_prepare hkind hr2 (Or.inl rfl) h) yk_W_prepare lk_W_67 zl_15 rfl rfl rfl (Nat.le_of_ble_eq_true rfl) ⟨Nat.le_of_ble_eq_true rfl, Nat.le_of_ble_eq_true rfl⟩ ⟨rfl, rfl⟩ ⟨(Nat.le_of_ble_eq_true rfl), (Nat.le_of_ble_eq_true rfl)⟩ d_W_find_11 (fun σ3 h => ?_)
  refine v_aload_n cx 0 d_W_find_14 rfl rfl ?_
  refine v_iload_n cx 2 d_W_find_15 rfl rfl ?_
  refine v_iload_n cx 1 d_W_find_16 rfl rfl ?_
  refine v_callVv0 (st := []) cx (s_W_search hto_ hfrom_ h) yk_W_search lk_W_71 zl_15 rfl rfl rfl (Nat.le_of_ble_eq_true rfl) ⟨Nat.le_of_ble_eq_true rfl, Nat.le_of_ble_eq_true rfl⟩ ⟨rfl, rfl⟩ ⟨(Nat.le_of_ble_eq_true rfl), (Nat.le_of_ble_eq_true rfl)⟩ d_W_find_17 (fun σ4 h => ?_)
  refine v_aload_n cx 0 d_W_find_20 rfl rfl ?_
  refine v_iload_n cx 1 d_W_find_21 rfl rfl ?_
  refine v_iload_n cx 2 d_W_find_22 rfl rfl ?_
  refine v_callVv0 (st := []) cx (s_W_walk hfrom_ hto_ h) yk_W_walk lk_W_78 zl_15 rfl rfl rfl (Nat.le_of_ble_eq_true rfl) ⟨Nat.le_of_ble_eq_true rfl, Nat.le_of_ble_eq_true rfl⟩ ⟨rfl, rfl⟩ ⟨(Nat.le_of_ble_eq_true rfl), (Nat.le_of_ble_eq_true rfl)⟩ d_W_find_23 (fun σ5 h => ?_)
  refine v_aload_n cx 0 d_W_find_26 rfl rfl ?_
  refine v_iload_n cx 1 d_W_find_27 rfl rfl ?_
  refine v_callVi0 (st := []) cx (s_W_left hfrom_ h) yk_W_left lk_W_75 zl_15 rfl rfl rfl (Nat.le_of_ble_eq_true rfl) ⟨Nat.le_of_ble_eq_true rfl, Nat.le_of_ble_eq_true rfl⟩ ⟨rfl, rfl⟩ ⟨(Nat.le_of_ble_eq_true rfl), (Nat.le_of_ble_eq_true rfl)⟩ d_W_find_28 (fun r7 σ6 hr7 h => ?_)
  exact rt _ _ _ _ _ _ (Nat.le_of_ble_eq_true rfl) (Nat.le_of_ble_eq_true rfl) d_W_find_31 hr7 h
def q_W_measureBored (from_ : Int) (to_ : Int) (bores : Int) (K : Int → zS → Prop) (σ : zS) : Prop :=
  q_L_value 0 (fun r2 σ1 =>
    q_W_prepare 0 r2 1 (fun σ3 =>
      zR (bores + 1) ∧ (∀ σ5 : zS, σ5 = zU σ3 15 12 (bores + 1) → q_W_search to_ from_ (fun σ6 =>
          q_W_left from_ (fun r8 σ7 =>
            K r8 σ7) σ6) σ5)) σ1) σ
abbrev rm_W_measureBored : Room := { frames := 4, cells := 0, slots := 0, locals := 101 }
set_option maxRecDepth 20000 in
set_option maxHeartbeats 4000000 in
theorem s_W_measureBored {Ω : zO} {ad : Nat → Nat} {from_ : Int} {to_ : Int} {bores : Int} {K : Int → zS → Prop} {σ : zS} (hfrom_ : zR from_) (hto_ : zR to_) (hbores : zR bores) (h : q_W_measureBored from_ to_ bores K σ) : zMi Ω y_W_measureBored (.code y_W_measureBored c_W_measureBored 4 (some .int)) rm_W_measureBored zLy ad [.ref (ad 15), .int (zI from_), .int (zI to_), .int (zI bores)] σ K := by
  refine z_ofi (lv := [(0, .ref (ad 15)), (1, .int (zI from_)), (2, .int (zI to_)), (3, .int (zI bores))]) (by decide) rfl (Nat.le_of_ble_eq_true rfl) ?_
  intro Γ Q cx rt
  unfold q_W_measureBored at h
  refine v_aload_n cx 0 d_W_measureBored_0 rfl rfl ?_
  refine v_iconst cx d_W_measureBored_1 ?_
  refine v_aload_n cx 0 d_W_measureBored_2 rfl rfl ?_
  refine gf_W_9 cx d_W_measureBored_3 ?_
  refine v_iconst cx d_W_measureBored_6 ?_
  refine v_callVi0 (st := [.int (zI 0), .ref (ad 15)]) cx (s_L_value ⟨by decide, by decide⟩ h) yk_L_value lk_W_61 zl_3 rfl rfl rfl (Nat.le_of_ble_eq_true rfl) ⟨Nat.le_of_ble_eq_true rfl, Nat.le_of_ble_eq_true rfl⟩ ⟨rfl, rfl⟩ ⟨(Nat.le_of_ble_eq_true rfl), (Nat.le_of_ble_eq_true rfl)⟩ d_W_measureBored_7 (fun r2 σ1 hr2 h => ?_)
  refine v_iconst cx d_W_measureBored_10 ?_
  refine v_callVv0 (st := []) cx (s_W_prepare ⟨by decide, by decide⟩ hr2 (Or.inr rfl) h) yk_W_prepare lk_W_67 zl_15 rfl rfl rfl (Nat.le_of_ble_eq_true rfl) ⟨Nat.le_of_ble_eq_true rfl, Nat.le_of_ble_eq_true rfl⟩ ⟨rfl, rfl⟩ ⟨(Nat.le_of_ble_eq_true rfl), (Nat.le_of_ble_eq_true rfl)⟩ d_W_measureBored_11 (fun σ3 h => ?_)
  refine v_aload_n cx 0 d_W_measureBored_14 rfl rfl ?_
  refine v_iload_n cx 3 d_W_measureBored_15 rfl rfl ?_
  refine v_iconst cx d_W_measureBored_16 ?_
  refine v_iadd cx d_W_measureBored_17 ?_
  obtain ⟨hr4, h⟩ := h
  refine pf_W_54 cx hr4 d_W_measureBored_18 ?_
  refine v_ns (fun σ5 eσ5 => ?_)
  replace h := h σ5 eσ5
  refine v_aload_n cx 0 d_W_measureBored_21 rfl rfl ?_
  refine v_iload_n cx 2 d_W_measureBored_22 rfl rfl ?_
  refine v_iload_n cx 1 d_W_measureBored_23 rfl rfl ?_
  refine v_callVv0 (st := []) cx (s_W_search hto_ hfrom_ h) yk_W_search lk_W_71 zl_15 rfl rfl rfl (Nat.le_of_ble_eq_true rfl) ⟨Nat.le_of_ble_eq_true rfl, Nat.le_of_ble_eq_true rfl⟩ ⟨rfl, rfl⟩ ⟨(Nat.le_of_ble_eq_true rfl), (Nat.le_of_ble_eq_true rfl)⟩ d_W_measureBored_24 (fun σ6 h => ?_)
  refine v_aload_n cx 0 d_W_measureBored_27 rfl rfl ?_
  refine v_iload_n cx 1 d_W_measureBored_28 rfl rfl ?_
  refine v_callVi0 (st := []) cx (s_W_left hfrom_ h) yk_W_left lk_W_75 zl_15 rfl rfl rfl (Nat.le_of_ble_eq_true rfl) ⟨Nat.le_of_ble_eq_true rfl, Nat.le_of_ble_eq_true rfl⟩ ⟨rfl, rfl⟩ ⟨(Nat.le_of_ble_eq_true rfl), (Nat.le_of_ble_eq_true rfl)⟩ d_W_measureBored_29 (fun r8 σ7 hr8 h => ?_)
  exact rt _ _ _ _ _ _ (Nat.le_of_ble_eq_true rfl) (Nat.le_of_ble_eq_true rfl) d_W_measureBored_32 hr8 h
def q_W_searchAll (goal : Int) (K : zS → Prop) (σ : zS) : Prop :=
  q_L_value 0 (fun r2 σ1 =>
    q_W_prepare 0 r2 0 (fun σ3 =>
      q_W_search goal (-1) (fun σ4 =>
        K σ4) σ3) σ1) σ
abbrev rm_W_searchAll : Room := { frames := 4, cells := 0, slots := 0, locals := 101 }
set_option maxRecDepth 20000 in
set_option maxHeartbeats 4000000 in
theorem s_W_searchAll {Ω : zO} {ad : Nat → Nat} {goal : Int} {K : zS → Prop} {σ : zS} (hgoal : zR goal) (h : q_W_searchAll goal K σ) : zMv Ω y_W_searchAll (.code y_W_searchAll c_W_searchAll 2 none) rm_W_searchAll zLy ad [.ref (ad 15), .int (zI goal)] σ K := by
  refine z_ofv (lv := [(0, .ref (ad 15)), (1, .int (zI goal))]) (by decide) rfl (Nat.le_of_ble_eq_true rfl) ?_
  intro Γ Q cx rt
  unfold q_W_searchAll at h
  refine v_aload_n cx 0 d_W_searchAll_0 rfl rfl ?_
  refine v_iconst cx d_W_searchAll_1 ?_
  refine v_aload_n cx 0 d_W_searchAll_2 rfl rfl ?_
  refine gf_W_9 cx d_W_searchAll_3 ?_
  refine v_iconst cx d_W_searchAll_6 ?_
  refine v_callVi0 (st := [.int (zI 0), .ref (ad 15)]) cx (s_L_value ⟨by decide, by decide⟩ h) yk_L_value lk_W_61 zl_3 rfl rfl rfl (Nat.le_of_ble_eq_true rfl) ⟨Nat.le_of_ble_eq_true rfl, Nat.le_of_ble_eq_true rfl⟩ ⟨rfl, rfl⟩ ⟨(Nat.le_of_ble_eq_true rfl), (Nat.le_of_ble_eq_true rfl)⟩ d_W_searchAll_7 (fun r2 σ1 hr2 h => ?_)
  refine v_iconst cx d_W_searchAll_10 ?_
  refine v_callVv0 (st := []) cx (s_W_prepare ⟨by decide, by decide⟩ hr2 (Or.inl rfl) h) yk_W_prepare lk_W_67 zl_15 rfl rfl rfl (Nat.le_of_ble_eq_true rfl) ⟨Nat.le_of_ble_eq_true rfl, Nat.le_of_ble_eq_true rfl⟩ ⟨rfl, rfl⟩ ⟨(Nat.le_of_ble_eq_true rfl), (Nat.le_of_ble_eq_true rfl)⟩ d_W_searchAll_11 (fun σ3 h => ?_)
  refine v_aload_n cx 0 d_W_searchAll_14 rfl rfl ?_
  refine v_iload_n cx 1 d_W_searchAll_15 rfl rfl ?_
  refine v_iconst cx d_W_searchAll_16 ?_
  refine v_callVv0 (st := []) cx (s_W_search hgoal ⟨by decide, by decide⟩ h) yk_W_search lk_W_71 zl_15 rfl rfl rfl (Nat.le_of_ble_eq_true rfl) ⟨Nat.le_of_ble_eq_true rfl, Nat.le_of_ble_eq_true rfl⟩ ⟨rfl, rfl⟩ ⟨(Nat.le_of_ble_eq_true rfl), (Nat.le_of_ble_eq_true rfl)⟩ d_W_searchAll_17 (fun σ4 h => ?_)
  exact rt _ _ _ _ _ (Nat.le_of_ble_eq_true rfl) (Nat.le_of_ble_eq_true rfl) d_W_searchAll_20 h
def q_W_costBetween (place : Int) (goal : Int) (K : Int → zS → Prop) (σ : zS) : Prop :=
  (place ≠ goal →
    q_W_left place (fun r3 σ2 =>
      K r3 σ2) σ) ∧ (place = goal →
    K 0 σ)
abbrev rm_W_costBetween : Room := { frames := 3, cells := 0, slots := 0, locals := 68 }
set_option maxRecDepth 20000 in
set_option maxHeartbeats 4000000 in
theorem s_W_costBetween {Ω : zO} {ad : Nat → Nat} {place : Int} {goal : Int} {K : Int → zS → Prop} {σ : zS} (hplace : zR place) (hgoal : zR goal) (h : q_W_costBetween place goal K σ) : zMi Ω y_W_costBetween (.code y_W_costBetween c_W_costBetween 3 (some .int)) rm_W_costBetween zLy ad [.ref (ad 15), .int (zI place), .int (zI goal)] σ K := by
  refine z_ofi (lv := [(0, .ref (ad 15)), (1, .int (zI place)), (2, .int (zI goal))]) (by decide) rfl (Nat.le_of_ble_eq_true rfl) ?_
  intro Γ Q cx rt
  unfold q_W_costBetween at h
  refine v_iload_n cx 1 d_W_costBetween_0 rfl rfl ?_
  refine v_iload_n cx 2 d_W_costBetween_1 rfl rfl ?_
  refine v_icmp_ne cx 9 d_W_costBetween_2 (by decide) hplace hgoal (fun c1 => ?_) (fun c1 => ?_)
  · replace h := h.1 c1
    refine v_aload_n cx 0 d_W_costBetween_9 rfl rfl ?_
    refine v_iload_n cx 1 d_W_costBetween_10 rfl rfl ?_
    refine v_callVi0 (st := []) cx (s_W_left hplace h) yk_W_left lk_W_75 zl_15 rfl rfl rfl (Nat.le_of_ble_eq_true rfl) ⟨Nat.le_of_ble_eq_true rfl, Nat.le_of_ble_eq_true rfl⟩ ⟨rfl, rfl⟩ ⟨(Nat.le_of_ble_eq_true rfl), (Nat.le_of_ble_eq_true rfl)⟩ d_W_costBetween_11 (fun r3 σ2 hr3 h => ?_)
    exact rt _ _ _ _ _ _ (Nat.le_of_ble_eq_true rfl) (Nat.le_of_ble_eq_true rfl) d_W_costBetween_14 hr3 h
  · replace h := h.2 c1
    refine v_iconst cx d_W_costBetween_5 ?_
    refine v_goto cx 14 d_W_costBetween_6 (by decide) ?_
    exact rt _ _ _ _ _ _ (Nat.le_of_ble_eq_true rfl) (Nat.le_of_ble_eq_true rfl) d_W_costBetween_14 ⟨by decide, by decide⟩ h
def q_W_takeWeight (place : Int) (heading : Int) (K : Int → zS → Prop) (σ : zS) : Prop :=
  ∀ x1 : Int, x1 = (place * 8) + heading → (0 ≤ x1 ∧ x1 < 648) ∧ (∀ x4 : Int, x4 = σ 16 x1 → ∀ σ5 : zS, σ5 = zU σ 16 x1 (-1) → K x4 σ5)
abbrev rm_W_takeWeight : Room := { frames := 0, cells := 0, slots := 0, locals := 0 }
set_option maxRecDepth 20000 in
set_option maxHeartbeats 4000000 in
theorem s_W_takeWeight {Ω : zO} {ad : Nat → Nat} {place : Int} {heading : Int} {K : Int → zS → Prop} {σ : zS} (hplace : zR place) (hheading : zR heading) (h : q_W_takeWeight place heading K σ) : zMi Ω y_W_takeWeight (.code y_W_takeWeight c_W_takeWeight 5 (some .int)) rm_W_takeWeight zLy ad [.ref (ad 15), .int (zI place), .int (zI heading)] σ K := by
  refine z_ofi (lv := [(0, .ref (ad 15)), (1, .int (zI place)), (2, .int (zI heading))]) (by decide) rfl (Nat.le_of_ble_eq_true rfl) ?_
  intro Γ Q cx rt
  unfold q_W_takeWeight at h
  refine v_iload_n cx 1 d_W_takeWeight_0 rfl rfl ?_
  refine v_bipush cx (by decide) d_W_takeWeight_1 ?_
  refine v_imul cx d_W_takeWeight_3 ?_
  refine v_iload_n cx 2 d_W_takeWeight_4 rfl rfl ?_
  refine v_iadd cx d_W_takeWeight_5 ?_
  refine v_nm (fun x1 ex1 => ?_)
  replace h := h x1 ex1
  refine v_istore_n (lv' := [(0, .ref (ad 15)), (1, .int (zI place)), (2, .int (zI heading)), (3, .int (zI x1))]) cx d_W_takeWeight_6 rfl (by decide) rfl rfl ?_
  refine v_aload_n cx 0 d_W_takeWeight_7 rfl rfl ?_
  refine gf_W_19 cx d_W_takeWeight_8 ?_
  refine v_iload_n cx 3 d_W_takeWeight_11 rfl rfl ?_
  obtain ⟨hb2, h⟩ := h
  refine v_iald cx zl_16 (by decide) hb2.1 hb2.2 d_W_takeWeight_12 (fun hl3 => ?_)
  refine v_nm (fun x4 ex4 => ?_)
  replace h := h x4 ex4
  have hx4 : zR x4 := by rw [ex4]; exact hl3
  refine v_istore (lv' := [(0, .ref (ad 15)), (1, .int (zI place)), (2, .int (zI heading)), (3, .int (zI x1)), (4, .int (zI x4))]) cx d_W_takeWeight_13 (by decide) rfl rfl ?_
  refine v_aload_n cx 0 d_W_takeWeight_15 rfl rfl ?_
  refine gf_W_19 cx d_W_takeWeight_16 ?_
  refine v_iload_n cx 3 d_W_takeWeight_19 rfl rfl ?_
  refine v_iconst cx d_W_takeWeight_20 ?_
  refine v_iast cx zl_16 (by decide) hb2.1 hb2.2 ⟨by decide, by decide⟩ d_W_takeWeight_21 ?_
  refine v_ns (fun σ5 eσ5 => ?_)
  replace h := h σ5 eσ5
  refine v_iload cx 4 d_W_takeWeight_22 rfl ?_
  exact rt _ _ _ _ _ _ (Nat.le_of_ble_eq_true rfl) (Nat.le_of_ble_eq_true rfl) d_W_takeWeight_24 hx4 h
def q_W_giveWeight (place : Int) (heading : Int) (weight : Int) (K : zS → Prop) (σ : zS) : Prop :=
  (0 ≤ (place * 8) + heading ∧ (place * 8) + heading < 648) ∧ (∀ σ2 : zS, σ2 = zU σ 16 ((place * 8) + heading) weight → K σ2)
abbrev rm_W_giveWeight : Room := { frames := 0, cells := 0, slots := 0, locals := 0 }
set_option maxRecDepth 20000 in
set_option maxHeartbeats 4000000 in
theorem s_W_giveWeight {Ω : zO} {ad : Nat → Nat} {place : Int} {heading : Int} {weight : Int} {K : zS → Prop} {σ : zS} (hplace : zR place) (hheading : zR heading) (hweight : zR weight) (h : q_W_giveWeight place heading weight K σ) : zMv Ω y_W_giveWeight (.code y_W_giveWeight c_W_giveWeight 4 none) rm_W_giveWeight zLy ad [.ref (ad 15), .int (zI place), .int (zI heading), .int (zI weight)] σ K := by
  refine z_ofv (lv := [(0, .ref (ad 15)), (1, .int (zI place)), (2, .int (zI heading)), (3, .int (zI weight))]) (by decide) rfl (Nat.le_of_ble_eq_true rfl) ?_
  intro Γ Q cx rt
  unfold q_W_giveWeight at h
  refine v_aload_n cx 0 d_W_giveWeight_0 rfl rfl ?_
  refine gf_W_19 cx d_W_giveWeight_1 ?_
  refine v_iload_n cx 1 d_W_giveWeight_4 rfl rfl ?_
  refine v_bipush cx (by decide) d_W_giveWeight_5 ?_
  refine v_imul cx d_W_giveWeight_7 ?_
  refine v_iload_n cx 2 d_W_giveWeight_8 rfl rfl ?_
  refine v_iadd cx d_W_giveWeight_9 ?_
  refine v_iload_n cx 3 d_W_giveWeight_10 rfl rfl ?_
  obtain ⟨hb1, h⟩ := h
  refine v_iast cx zl_16 (by decide) hb1.1 hb1.2 hweight d_W_giveWeight_11 ?_
  refine v_ns (fun σ2 eσ2 => ?_)
  replace h := h σ2 eσ2
  exact rt _ _ _ _ _ (Nat.le_of_ble_eq_true rfl) (Nat.le_of_ble_eq_true rfl) d_W_giveWeight_12 h
def q_W_line (place : Int) (before : Int) (size : Int) (K : Int → zS → Prop) (σ : zS) : Prop :=
  ∃ (I6 : Int → Int → zS → Prop) (μ6 : Int → Int → zS → Nat), (I6 size 0 σ) ∧ ∀ (y1 y2 : Int) (σ3 : zS), I6 y1 y2 σ3 → zR y1 → zR y2 → 
  (8 ≤ y2 →
    K y1 σ3) ∧ (y2 < 8 →
    ∀ x5 : Int, x5 = (place * 8) + y2 → (0 ≤ x5 ∧ x5 < 648) ∧ (((σ3 16 x5) = (-1) →
        I6 y1 (y2 + 1) σ3 ∧ zR (y2 + 1) ∧ μ6 y1 (y2 + 1) σ3 < μ6 y1 y2 σ3) ∧ ((σ3 16 x5) ≠ (-1) →
        ((σ3 26 x5) = 0 →
          ∃ J62 : zS → Prop, (∀ (σ13 : zS), J62 σ13 → 
            ∀ σ14 : zS, σ14 = zU σ13 26 x5 1 → (0 ≤ y1 ∧ y1 < 648) ∧ (zR x5 ∧ (∀ σ17 : zS, σ17 = zU σ14 27 y1 x5 → I6 (y1 + 1) (y2 + 1) σ17 ∧ zR (y1 + 1) ∧ zR (y2 + 1) ∧ μ6 (y1 + 1) (y2 + 1) σ17 < μ6 y1 y2 σ3))) ∧
          ((before = (-1) →
              J62 σ3) ∧ (before ≠ (-1) →
              q_W_canBend place before y2 (fun r24 σ23 =>
                (r24 = 0 →
                  I6 y1 (y2 + 1) σ23 ∧ zR (y2 + 1) ∧ μ6 y1 (y2 + 1) σ23 < μ6 y1 y2 σ3) ∧ (r24 ≠ 0 →
                  J62 σ23)) σ3))) ∧ ((σ3 26 x5) ≠ 0 →
          I6 y1 (y2 + 1) σ3 ∧ zR (y2 + 1) ∧ μ6 y1 (y2 + 1) σ3 < μ6 y1 y2 σ3))))
abbrev rm_W_line : Room := { frames := 2, cells := 0, slots := 0, locals := 45 }
set_option maxRecDepth 20000 in
set_option maxHeartbeats 4000000 in
theorem s_W_line {Ω : zO} {ad : Nat → Nat} {place : Int} {before : Int} {size : Int} {K : Int → zS → Prop} {σ : zS} (hplace : zR place) (hbefore : zR before) (hsize : zR size) (h : q_W_line place before size K σ) : zMi Ω y_W_line (.code y_W_line c_W_line 7 (some .int)) rm_W_line zLy ad [.ref (ad 15), .int (zI place), .int (zI before), .int (zI size)] σ K := by
  refine z_ofi (lv := [(0, .ref (ad 15)), (1, .int (zI place)), (2, .int (zI before)), (3, .int (zI size))]) (by decide) rfl (Nat.le_of_ble_eq_true rfl) ?_
  intro Γ Q cx rt
  unfold q_W_line at h
  refine v_iload_n cx 3 d_W_line_0 rfl rfl ?_
  refine v_istore (lv' := [(0, .ref (ad 15)), (1, .int (zI place)), (2, .int (zI before)), (3, .int (zI size)), (4, .int (zI size))]) cx d_W_line_1 (by decide) rfl rfl ?_
  refine v_iconst cx d_W_line_3 ?_
  refine v_istore (lv' := [(0, .ref (ad 15)), (1, .int (zI place)), (2, .int (zI before)), (3, .int (zI size)), (4, .int (zI size)), (5, .int (zI 0))]) cx d_W_line_4 (by decide) rfl rfl ?_
  refine v_sb (lv' := [(0, .ref (ad 15)), (1, .int (zI place)), (2, .int (zI before)), (4, .int (zI size)), (5, .int (zI 0))]) [0, 1, 2, 4, 5] rfl ?_
  obtain ⟨I6, μ6, h0, h⟩ := h
  have L6 : ∀ (N6 : Nat) (y1 y2 : Int) (σ3 : zS), μ6 y1 y2 σ3 < N6 → I6 y1 y2 σ3 → zR y1 → zR y2 → zV Ω Γ rm_W_line 7 Q 0 0 zLy ad σ3 6 [(0, .ref (ad 15)), (1, .int (zI place)), (2, .int (zI before)), (4, .int (zI y1)), (5, .int (zI y2))] [] := by
    intro N6
    induction N6 with
    | zero => intro y1 y2 σ3 hm; exact absurd hm (Nat.not_lt_zero _)
    | succ N6 ih6 =>
      intro y1 y2 σ3 hmm6 hI hy1 hy2
      replace h := h y1 y2 σ3 hI hy1 hy2
      refine v_iload cx 4 d_W_line_6 rfl ?_
      refine v_bipush cx (by decide) d_W_line_8 ?_
      refine v_icmp_ge cx 88 d_W_line_10 (by decide) hy2 ⟨by decide, by decide⟩ (fun c4 => ?_) (fun c4 => ?_)
      · replace h := h.1 c4
        refine v_iload cx 3 d_W_line_88 rfl ?_
        exact rt _ _ _ _ _ _ (Nat.le_of_ble_eq_true rfl) (Nat.le_of_ble_eq_true rfl) d_W_line_90 hy1 h
      · replace h := h.2 c4
        refine v_iload_n cx 1 d_W_line_13 rfl rfl ?_
        refine v_bipush cx (by decide) d_W_line_14 ?_
        refine v_imul cx d_W_line_16 ?_
        refine v_iload cx 4 d_W_line_17 rfl ?_
        refine v_iadd cx d_W_line_19 ?_
        refine v_nm (fun x5 ex5 => ?_)
        replace h := h x5 ex5
        refine v_istore (lv' := [(0, .ref (ad 15)), (1, .int (zI place)), (2, .int (zI before)), (4, .int (zI y1)), (5, .int (zI y2)), (6, .int (zI x5))]) cx d_W_line_20 (by decide) rfl rfl ?_
        refine v_aload_n cx 0 d_W_line_22 rfl rfl ?_
        refine gf_W_19 cx d_W_line_23 ?_
        refine v_iload cx 5 d_W_line_26 rfl ?_
        obtain ⟨hb6, h⟩ := h
        refine v_iald cx zl_16 (by decide) hb6.1 hb6.2 d_W_line_28 (fun hl7 => ?_)
        refine v_iconst cx d_W_line_29 ?_
        refine v_icmp_eq cx 82 d_W_line_30 (by decide) hl7 ⟨by decide, by decide⟩ (fun c8 => ?_) (fun c8 => ?_)
        · replace h := h.1 c8
          refine v_iinc (lv' := [(0, .ref (ad 15)), (1, .int (zI place)), (2, .int (zI before)), (4, .int (zI y1)), (5, .int (zI (y2 + 1))), (6, .int (zI x5))]) cx 4 d_W_line_82 rfl (by decide) rfl rfl ?_
          refine v_goto cx 6 d_W_line_85 (by decide) ?_
          refine v_sb (lv' := [(0, .ref (ad 15)), (1, .int (zI place)), (2, .int (zI before)), (4, .int (zI y1)), (5, .int (zI (y2 + 1)))]) [0, 1, 2, 3, 4] rfl ?_
          obtain ⟨hI2, hz10, hm2⟩ := h
          exact ih6 _ _ _ (Nat.lt_of_lt_of_le hm2 (Nat.le_of_lt_succ hmm6)) hI2 hy1 hz10
        · replace h := h.2 c8
          refine v_aload_n cx 0 d_W_line_33 rfl rfl ?_
          refine gf_W_48 cx d_W_line_34 ?_
          refine v_iload cx 5 d_W_line_37 rfl ?_
          refine v_iald cx zl_26 (by decide) hb6.1 hb6.2 d_W_line_39 (fun hl11 => ?_)
          refine v_if_eq cx 46 d_W_line_40 (by decide) hl11 (fun c12 => ?_) (fun c12 => ?_)
          · replace h := h.1 c12
            refine v_iload_n cx 2 d_W_line_46 rfl rfl ?_
            refine v_iconst cx d_W_line_47 ?_
            obtain ⟨J62, hJ62, h⟩ := h
            have G62 : ∀ (σ13 : zS), J62 σ13 → zV Ω Γ rm_W_line 7 Q 0 0 zLy ad σ13 62 [(0, .ref (ad 15)), (1, .int (zI place)), (2, .int (zI before)), (4, .int (zI y1)), (5, .int (zI y2)), (6, .int (zI x5))] [] := by
              intro σ13 hJ 
              replace h := hJ62 σ13 hJ 
              refine v_aload_n cx 0 d_W_line_62 rfl rfl ?_
              refine gf_W_48 cx d_W_line_63 ?_
              refine v_iload cx 5 d_W_line_66 rfl ?_
              refine v_iconst cx d_W_line_68 ?_
              refine v_iast cx zl_26 (by decide) hb6.1 hb6.2 ⟨by decide, by decide⟩ d_W_line_69 ?_
              refine v_ns (fun σ14 eσ14 => ?_)
              replace h := h σ14 eσ14
              refine v_aload_n cx 0 d_W_line_70 rfl rfl ?_
              refine gf_W_51 cx d_W_line_71 ?_
              refine v_iload cx 3 d_W_line_74 rfl ?_
              refine v_iload cx 5 d_W_line_76 rfl ?_
              obtain ⟨hb15, h⟩ := h
              obtain ⟨hr16, h⟩ := h
              refine v_iast cx zl_27 (by decide) hb15.1 hb15.2 hr16 d_W_line_78 ?_
              refine v_ns (fun σ17 eσ17 => ?_)
              replace h := h σ17 eσ17
              refine v_iinc (lv' := [(0, .ref (ad 15)), (1, .int (zI place)), (2, .int (zI before)), (4, .int (zI (y1 + 1))), (5, .int (zI y2)), (6, .int (zI x5))]) cx 3 d_W_line_79 rfl (by decide) rfl rfl ?_
              refine v_iinc (lv' := [(0, .ref (ad 15)), (1, .int (zI place)), (2, .int (zI before)), (4, .int (zI (y1 + 1))), (5, .int (zI (y2 + 1))), (6, .int (zI x5))]) cx 4 d_W_line_82 rfl (by decide) rfl rfl ?_
              refine v_goto cx 6 d_W_line_85 (by decide) ?_
              refine v_sb (lv' := [(0, .ref (ad 15)), (1, .int (zI place)), (2, .int (zI before)), (4, .int (zI (y1 + 1))), (5, .int (zI (y2 + 1)))]) [0, 1, 2, 3, 4] rfl ?_
              obtain ⟨hI2, hz20, hz21, hm2⟩ := h
              exact ih6 _ _ _ (Nat.lt_of_lt_of_le hm2 (Nat.le_of_lt_succ hmm6)) hI2 hz20 hz21
            refine v_icmp_eq cx 62 d_W_line_48 (by decide) hbefore ⟨by decide, by decide⟩ (fun c22 => ?_) (fun c22 => ?_)
            · replace h := h.1 c22
              have hJ2 := h
              exact G62 _ hJ2 
            · replace h := h.2 c22
              refine v_aload_n cx 0 d_W_line_51 rfl rfl ?_
              refine v_iload_n cx 1 d_W_line_52 rfl rfl ?_
              refine v_iload_n cx 2 d_W_line_53 rfl rfl ?_
              refine v_iload cx 4 d_W_line_54 rfl ?_
              refine v_callVz0 (st := []) cx (s_W_canBend hplace hbefore hy2 h) yk_W_canBend lk_W_170 zl_15 rfl rfl rfl (Nat.le_of_ble_eq_true rfl) ⟨Nat.le_of_ble_eq_true rfl, Nat.le_of_ble_eq_true rfl⟩ ⟨rfl, rfl⟩ ⟨(Nat.le_of_ble_eq_true rfl), (Nat.le_of_ble_eq_true rfl)⟩ d_W_line_56 (fun r24 σ23 hr24 h => ?_)
              refine v_if_eq cx 82 d_W_line_59 (by decide) (zR_b hr24) (fun c25 => ?_) (fun c25 => ?_)
              · replace h := h.1 c25
                refine v_iinc (lv' := [(0, .ref (ad 15)), (1, .int (zI place)), (2, .int (zI before)), (4, .int (zI y1)), (5, .int (zI (y2 + 1))), (6, .int (zI x5))]) cx 4 d_W_line_82 rfl (by decide) rfl rfl ?_
                refine v_goto cx 6 d_W_line_85 (by decide) ?_
                refine v_sb (lv' := [(0, .ref (ad 15)), (1, .int (zI place)), (2, .int (zI before)), (4, .int (zI y1)), (5, .int (zI (y2 + 1)))]) [0, 1, 2, 3, 4] rfl ?_
                obtain ⟨hI2, hz27, hm2⟩ := h
                exact ih6 _ _ _ (Nat.lt_of_lt_of_le hm2 (Nat.le_of_lt_succ hmm6)) hI2 hy1 hz27
              · replace h := h.2 c25
                have hJ2 := h
                exact G62 _ hJ2 
          · replace h := h.2 c12
            refine v_goto cx 82 d_W_line_43 (by decide) ?_
            refine v_iinc (lv' := [(0, .ref (ad 15)), (1, .int (zI place)), (2, .int (zI before)), (4, .int (zI y1)), (5, .int (zI (y2 + 1))), (6, .int (zI x5))]) cx 4 d_W_line_82 rfl (by decide) rfl rfl ?_
            refine v_goto cx 6 d_W_line_85 (by decide) ?_
            refine v_sb (lv' := [(0, .ref (ad 15)), (1, .int (zI place)), (2, .int (zI before)), (4, .int (zI y1)), (5, .int (zI (y2 + 1)))]) [0, 1, 2, 3, 4] rfl ?_
            obtain ⟨hI2, hz29, hm2⟩ := h
            exact ih6 _ _ _ (Nat.lt_of_lt_of_le hm2 (Nat.le_of_lt_succ hmm6)) hI2 hy1 hz29
  exact L6 _ _ _ _ (Nat.lt_succ_self _) h0 hsize ⟨by decide, by decide⟩
def q_W_spread (from_ : Int) (to_ : Int) (K : Int → zS → Prop) (σ : zS) : Prop :=
  q_J_fill2 26 648 0 (fun σ1 =>
    q_J_fill2 29 81 0 (fun σ2 =>
      q_W_line from_ (-1) 0 (fun r4 σ3 =>
        ∃ (I25 : Int → Int → zS → Prop) (μ25 : Int → Int → zS → Nat), (I25 r4 0 σ3) ∧ ∀ (y5 y6 : Int) (σ7 : zS), I25 y5 y6 σ7 → zR y5 → zR y6 → 
        (y5 ≤ y6 →
          K 0 σ7) ∧ (y6 < y5 →
          (648 ≤ y6 →
            K 0 σ7) ∧ (y6 < 648 →
            (0 ≤ y6 ∧ y6 < 648) ∧ (∀ x12 : Int, x12 = zAnd (σ7 27 y6) 7 → zR (Int.tdiv (σ7 27 y6) 8) ∧ (q_L_besideOf (Int.tdiv (σ7 27 y6) 8) x12 (fun r16 σ15 =>
                  (0 ≤ r16 ∧ r16 < 81) ∧ (∀ σ18 : zS, σ18 = zU σ15 29 r16 1 → (r16 ≠ to_ →
                      q_W_line r16 x12 y5 (fun r21 σ20 =>
                        I25 r21 (y6 + 1) σ20 ∧ zR (y6 + 1) ∧ μ25 r21 (y6 + 1) σ20 < μ25 y5 y6 σ7) σ18) ∧ (r16 = to_ →
                      K 1 σ18))) σ7))))) σ2) σ1) σ
abbrev rm_W_spread : Room := { frames := 3, cells := 0, slots := 0, locals := 71 }
set_option maxRecDepth 20000 in
set_option maxHeartbeats 4000000 in
theorem s_W_spread {Ω : zO} {ad : Nat → Nat} {from_ : Int} {to_ : Int} {K : Int → zS → Prop} {σ : zS} (hfrom_ : zR from_) (hto_ : zR to_) (h : q_W_spread from_ to_ K σ) : zMz Ω y_W_spread (.code y_W_spread c_W_spread 8 (some .boolean)) rm_W_spread zLy ad [.ref (ad 15), .int (zI from_), .int (zI to_), .ref (ad 29)] σ K := by
  refine z_ofz (lv := [(0, .ref (ad 15)), (1, .int (zI from_)), (2, .int (zI to_)), (3, .ref (ad 29))]) (by decide) rfl (Nat.le_of_ble_eq_true rfl) ?_
  intro Γ Q cx rt
  unfold q_W_spread at h
  refine v_aload_n cx 0 d_W_spread_0 rfl rfl ?_
  refine gf_W_48 cx d_W_spread_1 ?_
  refine v_iconst cx d_W_spread_4 ?_
  refine v_callSv0 (st := []) cx (s_J_fill2 (o := 26) zl_26 (by decide) ⟨by decide, by decide⟩ h) yk_J_fill2 lk_W_132 rfl rfl (Nat.le_of_ble_eq_true rfl) ⟨Nat.le_of_ble_eq_true rfl, Nat.le_of_ble_eq_true rfl⟩ ⟨rfl, rfl⟩ ⟨Nat.le_of_ble_eq_true rfl, Nat.le_of_ble_eq_true rfl⟩ d_W_spread_5 (fun σ1 h => ?_)
  refine v_aload_n cx 3 d_W_spread_8 rfl rfl ?_
  refine v_iconst cx d_W_spread_9 ?_
  refine v_callSv0 (st := []) cx (s_J_fill2 (o := 29) zl_29 (by decide) ⟨by decide, by decide⟩ h) yk_J_fill2 lk_W_132 rfl rfl (Nat.le_of_ble_eq_true rfl) ⟨Nat.le_of_ble_eq_true rfl, Nat.le_of_ble_eq_true rfl⟩ ⟨rfl, rfl⟩ ⟨Nat.le_of_ble_eq_true rfl, Nat.le_of_ble_eq_true rfl⟩ d_W_spread_10 (fun σ2 h => ?_)
  refine v_aload_n cx 0 d_W_spread_13 rfl rfl ?_
  refine v_iload_n cx 1 d_W_spread_14 rfl rfl ?_
  refine v_iconst cx d_W_spread_15 ?_
  refine v_iconst cx d_W_spread_16 ?_
  refine v_callVi0 (st := []) cx (s_W_line hfrom_ ⟨by decide, by decide⟩ ⟨by decide, by decide⟩ h) yk_W_line lk_W_188 zl_15 rfl rfl rfl (Nat.le_of_ble_eq_true rfl) ⟨Nat.le_of_ble_eq_true rfl, Nat.le_of_ble_eq_true rfl⟩ ⟨rfl, rfl⟩ ⟨(Nat.le_of_ble_eq_true rfl), (Nat.le_of_ble_eq_true rfl)⟩ d_W_spread_17 (fun r4 σ3 hr4 h => ?_)
  refine v_istore (lv' := [(0, .ref (ad 15)), (1, .int (zI from_)), (2, .int (zI to_)), (3, .ref (ad 29)), (4, .int (zI r4))]) cx d_W_spread_20 (by decide) rfl rfl ?_
  refine v_iconst cx d_W_spread_22 ?_
  refine v_istore (lv' := [(0, .ref (ad 15)), (1, .int (zI from_)), (2, .int (zI to_)), (3, .ref (ad 29)), (4, .int (zI r4)), (5, .int (zI 0))]) cx d_W_spread_23 (by decide) rfl rfl ?_
  refine v_sb (lv' := [(0, .ref (ad 15)), (2, .int (zI to_)), (3, .ref (ad 29)), (4, .int (zI r4)), (5, .int (zI 0))]) [0, 2, 3, 4, 5] rfl ?_
  obtain ⟨I25, μ25, h0, h⟩ := h
  have L25 : ∀ (N25 : Nat) (y5 y6 : Int) (σ7 : zS), μ25 y5 y6 σ7 < N25 → I25 y5 y6 σ7 → zR y5 → zR y6 → zV Ω Γ rm_W_spread 8 Q 0 0 zLy ad σ7 25 [(0, .ref (ad 15)), (2, .int (zI to_)), (3, .ref (ad 29)), (4, .int (zI y5)), (5, .int (zI y6))] [] := by
    intro N25
    induction N25 with
    | zero => intro y5 y6 σ7 hm; exact absurd hm (Nat.not_lt_zero _)
    | succ N25 ih25 =>
      intro y5 y6 σ7 hmm25 hI hy5 hy6
      replace h := h y5 y6 σ7 hI hy5 hy6
      refine v_iload cx 4 d_W_spread_25 rfl ?_
      refine v_iload cx 3 d_W_spread_27 rfl ?_
      refine v_icmp_ge cx 104 d_W_spread_29 (by decide) hy6 hy5 (fun c8 => ?_) (fun c8 => ?_)
      · replace h := h.1 c8
        refine v_iconst cx d_W_spread_104 ?_
        exact rt _ _ _ _ _ _ (Nat.le_of_ble_eq_true rfl) (Nat.le_of_ble_eq_true rfl) d_W_spread_105 (Or.inl rfl) h
      · replace h := h.2 c8
        refine v_iload cx 4 d_W_spread_32 rfl ?_
        refine v_sipush cx (by decide) d_W_spread_34 ?_
        refine v_icmp_ge cx 104 d_W_spread_37 (by decide) hy6 ⟨by decide, by decide⟩ (fun c9 => ?_) (fun c9 => ?_)
        · replace h := h.1 c9
          refine v_iconst cx d_W_spread_104 ?_
          exact rt _ _ _ _ _ _ (Nat.le_of_ble_eq_true rfl) (Nat.le_of_ble_eq_true rfl) d_W_spread_105 (Or.inl rfl) h
        · replace h := h.2 c9
          refine v_aload_n cx 0 d_W_spread_40 rfl rfl ?_
          refine gf_W_51 cx d_W_spread_41 ?_
          refine v_iload cx 4 d_W_spread_44 rfl ?_
          obtain ⟨hb10, h⟩ := h
          refine v_iald cx zl_27 (by decide) hb10.1 hb10.2 d_W_spread_46 (fun hl11 => ?_)
          refine v_bipush cx (by decide) d_W_spread_47 ?_
          refine v_iand cx d_W_spread_49 ?_
          refine v_nm (fun x12 ex12 => ?_)
          replace h := h x12 ex12
          have hx12 : zR x12 := by rw [ex12]; exact (zR_and _ _)
          refine v_istore (lv' := [(0, .ref (ad 15)), (2, .int (zI to_)), (3, .ref (ad 29)), (4, .int (zI y5)), (5, .int (zI y6)), (6, .int (zI x12))]) cx d_W_spread_50 (by decide) rfl rfl ?_
          refine v_aload_n cx 0 d_W_spread_52 rfl rfl ?_
          refine gf_W_9 cx d_W_spread_53 ?_
          refine v_aload_n cx 0 d_W_spread_56 rfl rfl ?_
          refine gf_W_51 cx d_W_spread_57 ?_
          refine v_iload cx 4 d_W_spread_60 rfl ?_
          refine v_iald cx zl_27 (by decide) hb10.1 hb10.2 d_W_spread_62 (fun hl13 => ?_)
          refine v_bipush cx (by decide) d_W_spread_63 ?_
          refine v_idiv cx d_W_spread_65 hl13 ⟨by decide, by decide⟩ (by decide) (Or.inr (by decide)) ?_
          refine v_iload cx 5 d_W_spread_66 rfl ?_
          obtain ⟨hr14, h⟩ := h
          refine v_callVi0 (st := []) cx (s_L_besideOf hr14 hx12 h) yk_L_besideOf lk_W_119 zl_3 rfl rfl rfl (Nat.le_of_ble_eq_true rfl) ⟨Nat.le_of_ble_eq_true rfl, Nat.le_of_ble_eq_true rfl⟩ ⟨rfl, rfl⟩ ⟨(Nat.le_of_ble_eq_true rfl), (Nat.le_of_ble_eq_true rfl)⟩ d_W_spread_68 (fun r16 σ15 hr16 h => ?_)
          refine v_istore (lv' := [(0, .ref (ad 15)), (2, .int (zI to_)), (3, .ref (ad 29)), (4, .int (zI y5)), (5, .int (zI y6)), (6, .int (zI x12)), (7, .int (zI r16))]) cx d_W_spread_71 (by decide) rfl rfl ?_
          refine v_aload_n cx 2 d_W_spread_73 rfl rfl ?_
          refine v_iload cx 6 d_W_spread_74 rfl ?_
          refine v_iconst cx d_W_spread_76 ?_
          obtain ⟨hb17, h⟩ := h
          refine v_iast cx zl_29 (by decide) hb17.1 hb17.2 ⟨by decide, by decide⟩ d_W_spread_77 ?_
          refine v_ns (fun σ18 eσ18 => ?_)
          replace h := h σ18 eσ18
          refine v_iload cx 6 d_W_spread_78 rfl ?_
          refine v_iload_n cx 1 d_W_spread_80 rfl rfl ?_
          refine v_icmp_ne cx 86 d_W_spread_81 (by decide) hr16 hto_ (fun c19 => ?_) (fun c19 => ?_)
          · replace h := h.1 c19
            refine v_aload_n cx 0 d_W_spread_86 rfl rfl ?_
            refine v_iload cx 6 d_W_spread_87 rfl ?_
            refine v_iload cx 5 d_W_spread_89 rfl ?_
            refine v_iload cx 3 d_W_spread_91 rfl ?_
            refine v_callVi0 (st := []) cx (s_W_line hr16 hx12 hy5 h) yk_W_line lk_W_188 zl_15 rfl rfl rfl (Nat.le_of_ble_eq_true rfl) ⟨Nat.le_of_ble_eq_true rfl, Nat.le_of_ble_eq_true rfl⟩ ⟨rfl, rfl⟩ ⟨(Nat.le_of_ble_eq_true rfl), (Nat.le_of_ble_eq_true rfl)⟩ d_W_spread_93 (fun r21 σ20 hr21 h => ?_)
            refine v_istore (lv' := [(0, .ref (ad 15)), (2, .int (zI to_)), (3, .ref (ad 29)), (4, .int (zI r21)), (5, .int (zI y6)), (6, .int (zI x12)), (7, .int (zI r16))]) cx d_W_spread_96 (by decide) rfl rfl ?_
            refine v_iinc (lv' := [(0, .ref (ad 15)), (2, .int (zI to_)), (3, .ref (ad 29)), (4, .int (zI r21)), (5, .int (zI (y6 + 1))), (6, .int (zI x12)), (7, .int (zI r16))]) cx 4 d_W_spread_98 rfl (by decide) rfl rfl ?_
            refine v_goto cx 25 d_W_spread_101 (by decide) ?_
            refine v_sb (lv' := [(0, .ref (ad 15)), (2, .int (zI to_)), (3, .ref (ad 29)), (4, .int (zI r21)), (5, .int (zI (y6 + 1)))]) [0, 1, 2, 3, 4] rfl ?_
            obtain ⟨hI2, hz23, hm2⟩ := h
            exact ih25 _ _ _ (Nat.lt_of_lt_of_le hm2 (Nat.le_of_lt_succ hmm25)) hI2 hr21 hz23
          · replace h := h.2 c19
            refine v_iconst cx d_W_spread_84 ?_
            exact rt _ _ _ _ _ _ (Nat.le_of_ble_eq_true rfl) (Nat.le_of_ble_eq_true rfl) d_W_spread_85 (Or.inr rfl) h
  exact L25 _ _ _ _ (Nat.lt_succ_self _) h0 hr4 ⟨by decide, by decide⟩
def q_N_reached (place : Int) (K : Int → zS → Prop) (σ : zS) : Prop :=
  q_L_value 0 (fun r2 σ1 =>
    q_W_prepare 3 r2 0 (fun σ3 =>
      q_W_spread place (-1) (fun r5 σ4 =>
        ∃ (I35 : Int → Int → zS → Prop) (μ35 : Int → Int → zS → Nat), (I35 0 0 σ4) ∧ ∀ (y6 y7 : Int) (σ8 : zS), I35 y6 y7 σ8 → zR y6 → zR y7 → 
        q_L_places (fun r10 σ9 =>
          (r10 ≤ y7 →
            K y6 σ9) ∧ (y7 < r10 →
            (y7 ≠ place →
              (0 ≤ y7 ∧ y7 < 81) ∧ (∀ x15 : Int, x15 = y6 + (σ9 29 y7) → I35 x15 (y7 + 1) σ9 ∧ zR x15 ∧ zR (y7 + 1) ∧ μ35 x15 (y7 + 1) σ9 < μ35 y6 y7 σ8)) ∧ (y7 = place →
              ∀ x19 : Int, x19 = y6 + 0 → I35 x19 (y7 + 1) σ9 ∧ zR x19 ∧ zR (y7 + 1) ∧ μ35 x19 (y7 + 1) σ9 < μ35 y6 y7 σ8))) σ8) σ3) σ1) σ
abbrev rm_N_reached : Room := { frames := 4, cells := 0, slots := 0, locals := 101 }
set_option maxRecDepth 20000 in
set_option maxHeartbeats 4000000 in
theorem s_N_reached {Ω : zO} {ad : Nat → Nat} {place : Int} {K : Int → zS → Prop} {σ : zS} (hplace : zR place) (h : q_N_reached place K σ) : zMi Ω y_N_reached (.code y_N_reached c_N_reached 4 (some .int)) rm_N_reached zLy ad [.ref (ad 28), .int (zI place)] σ K := by
  refine z_ofi (lv := [(0, .ref (ad 28)), (1, .int (zI place))]) (by decide) rfl (Nat.le_of_ble_eq_true rfl) ?_
  intro Γ Q cx rt
  unfold q_N_reached at h
  refine v_aload_n cx 0 d_N_reached_0 rfl rfl ?_
  refine gf_N_15 cx d_N_reached_1 ?_
  refine v_iconst cx d_N_reached_4 ?_
  refine v_aload_n cx 0 d_N_reached_5 rfl rfl ?_
  refine gf_N_9 cx d_N_reached_6 ?_
  refine v_iconst cx d_N_reached_9 ?_
  refine v_callVi0 (st := [.int (zI 3), .ref (ad 15)]) cx (s_L_value ⟨by decide, by decide⟩ h) yk_L_value lk_N_45 zl_3 rfl rfl rfl (Nat.le_of_ble_eq_true rfl) ⟨Nat.le_of_ble_eq_true rfl, Nat.le_of_ble_eq_true rfl⟩ ⟨rfl, rfl⟩ ⟨(Nat.le_of_ble_eq_true rfl), (Nat.le_of_ble_eq_true rfl)⟩ d_N_reached_10 (fun r2 σ1 hr2 h => ?_)
  refine v_iconst cx d_N_reached_13 ?_
  refine v_callVv0 (st := []) cx (s_W_prepare ⟨by decide, by decide⟩ hr2 (Or.inl rfl) h) yk_W_prepare lk_N_51 zl_15 rfl rfl rfl (Nat.le_of_ble_eq_true rfl) ⟨Nat.le_of_ble_eq_true rfl, Nat.le_of_ble_eq_true rfl⟩ ⟨rfl, rfl⟩ ⟨(Nat.le_of_ble_eq_true rfl), (Nat.le_of_ble_eq_true rfl)⟩ d_N_reached_14 (fun σ3 h => ?_)
  refine v_aload_n cx 0 d_N_reached_17 rfl rfl ?_
  refine gf_N_15 cx d_N_reached_18 ?_
  refine v_iload_n cx 1 d_N_reached_21 rfl rfl ?_
  refine v_iconst cx d_N_reached_22 ?_
  refine v_aload_n cx 0 d_N_reached_23 rfl rfl ?_
  refine gf_N_19 cx d_N_reached_24 ?_
  refine v_callVz0 (st := []) cx (s_W_spread hplace ⟨by decide, by decide⟩ h) yk_W_spread lk_N_57 zl_15 rfl rfl rfl (Nat.le_of_ble_eq_true rfl) ⟨Nat.le_of_ble_eq_true rfl, Nat.le_of_ble_eq_true rfl⟩ ⟨rfl, rfl⟩ ⟨(Nat.le_of_ble_eq_true rfl), (Nat.le_of_ble_eq_true rfl)⟩ d_N_reached_27 (fun r5 σ4 hr5 h => ?_)
  refine v_pop cx d_N_reached_30 rfl ?_
  refine v_iconst cx d_N_reached_31 ?_
  refine v_istore_n (lv' := [(0, .ref (ad 28)), (1, .int (zI place)), (2, .int (zI 0))]) cx d_N_reached_32 rfl (by decide) rfl rfl ?_
  refine v_iconst cx d_N_reached_33 ?_
  refine v_istore_n (lv' := [(0, .ref (ad 28)), (1, .int (zI place)), (2, .int (zI 0)), (3, .int (zI 0))]) cx d_N_reached_34 rfl (by decide) rfl rfl ?_
  obtain ⟨I35, μ35, h0, h⟩ := h
  have L35 : ∀ (N35 : Nat) (y6 y7 : Int) (σ8 : zS), μ35 y6 y7 σ8 < N35 → I35 y6 y7 σ8 → zR y6 → zR y7 → zV Ω Γ rm_N_reached 4 Q 0 0 zLy ad σ8 35 [(0, .ref (ad 28)), (1, .int (zI place)), (2, .int (zI y6)), (3, .int (zI y7))] [] := by
    intro N35
    induction N35 with
    | zero => intro y6 y7 σ8 hm; exact absurd hm (Nat.not_lt_zero _)
    | succ N35 ih35 =>
      intro y6 y7 σ8 hmm35 hI hy6 hy7
      replace h := h y6 y7 σ8 hI hy6 hy7
      refine v_iload_n cx 3 d_N_reached_35 rfl rfl ?_
      refine v_aload_n cx 0 d_N_reached_36 rfl rfl ?_
      refine gf_N_9 cx d_N_reached_37 ?_
      refine v_callVi0 (st := [.int (zI y7)]) cx (s_L_places  h) yk_L_places lk_N_61 zl_3 rfl rfl rfl (Nat.le_of_ble_eq_true rfl) ⟨Nat.le_of_ble_eq_true rfl, Nat.le_of_ble_eq_true rfl⟩ ⟨rfl, rfl⟩ ⟨(Nat.le_of_ble_eq_true rfl), (Nat.le_of_ble_eq_true rfl)⟩ d_N_reached_40 (fun r10 σ9 hr10 h => ?_)
      refine v_icmp_ge cx 70 d_N_reached_43 (by decide) hy7 hr10 (fun c11 => ?_) (fun c11 => ?_)
      · replace h := h.1 c11
        refine v_iload_n cx 2 d_N_reached_70 rfl rfl ?_
        exact rt _ _ _ _ _ _ (Nat.le_of_ble_eq_true rfl) (Nat.le_of_ble_eq_true rfl) d_N_reached_71 hy6 h
      · replace h := h.2 c11
        refine v_iload_n cx 2 d_N_reached_46 rfl rfl ?_
        refine v_iload_n cx 3 d_N_reached_47 rfl rfl ?_
        refine v_iload_n cx 1 d_N_reached_48 rfl rfl ?_
        refine v_icmp_ne cx 56 d_N_reached_49 (by decide) hy7 hplace (fun c12 => ?_) (fun c12 => ?_)
        · replace h := h.1 c12
          refine v_aload_n cx 0 d_N_reached_56 rfl rfl ?_
          refine gf_N_19 cx d_N_reached_57 ?_
          refine v_iload_n cx 3 d_N_reached_60 rfl rfl ?_
          obtain ⟨hb13, h⟩ := h
          refine v_iald cx zl_29 (by decide) hb13.1 hb13.2 d_N_reached_61 (fun hl14 => ?_)
          refine v_iadd cx d_N_reached_62 ?_
          refine v_nm (fun x15 ex15 => ?_)
          replace h := h x15 ex15
          refine v_istore_n (lv' := [(0, .ref (ad 28)), (1, .int (zI place)), (2, .int (zI x15)), (3, .int (zI y7))]) cx d_N_reached_63 rfl (by decide) rfl rfl ?_
          refine v_iinc (lv' := [(0, .ref (ad 28)), (1, .int (zI place)), (2, .int (zI x15)), (3, .int (zI (y7 + 1)))]) cx 3 d_N_reached_64 rfl (by decide) rfl rfl ?_
          refine v_goto cx 35 d_N_reached_67 (by decide) ?_
          obtain ⟨hI2, hz17, hz18, hm2⟩ := h
          exact ih35 _ _ _ (Nat.lt_of_lt_of_le hm2 (Nat.le_of_lt_succ hmm35)) hI2 hz17 hz18
        · replace h := h.2 c12
          refine v_iconst cx d_N_reached_52 ?_
          refine v_goto cx 62 d_N_reached_53 (by decide) ?_
          refine v_iadd cx d_N_reached_62 ?_
          refine v_nm (fun x19 ex19 => ?_)
          replace h := h x19 ex19
          refine v_istore_n (lv' := [(0, .ref (ad 28)), (1, .int (zI place)), (2, .int (zI x19)), (3, .int (zI y7))]) cx d_N_reached_63 rfl (by decide) rfl rfl ?_
          refine v_iinc (lv' := [(0, .ref (ad 28)), (1, .int (zI place)), (2, .int (zI x19)), (3, .int (zI (y7 + 1)))]) cx 3 d_N_reached_64 rfl (by decide) rfl rfl ?_
          refine v_goto cx 35 d_N_reached_67 (by decide) ?_
          obtain ⟨hI2, hz21, hz22, hm2⟩ := h
          exact ih35 _ _ _ (Nat.lt_of_lt_of_le hm2 (Nat.le_of_lt_succ hmm35)) hI2 hz21 hz22
  exact L35 _ _ _ _ (Nat.lt_succ_self _) h0 ⟨by decide, by decide⟩ ⟨by decide, by decide⟩
def q_N_isWay (from_ : Int) (to_ : Int) (grade : Int) (K : Int → zS → Prop) (σ : zS) : Prop :=
  q_W_prepare 3 grade 0 (fun σ1 =>
    q_W_spread from_ to_ (fun r3 σ2 =>
      K r3 σ2) σ1) σ
abbrev rm_N_isWay : Room := { frames := 4, cells := 0, slots := 0, locals := 101 }
set_option maxRecDepth 20000 in
set_option maxHeartbeats 4000000 in
theorem s_N_isWay {Ω : zO} {ad : Nat → Nat} {from_ : Int} {to_ : Int} {grade : Int} {K : Int → zS → Prop} {σ : zS} (hfrom_ : zR from_) (hto_ : zR to_) (hgrade : zR grade) (h : q_N_isWay from_ to_ grade K σ) : zMz Ω y_N_isWay (.code y_N_isWay c_N_isWay 4 (some .boolean)) rm_N_isWay zLy ad [.ref (ad 28), .int (zI from_), .int (zI to_), .int (zI grade)] σ K := by
  refine z_ofz (lv := [(0, .ref (ad 28)), (1, .int (zI from_)), (2, .int (zI to_)), (3, .int (zI grade))]) (by decide) rfl (Nat.le_of_ble_eq_true rfl) ?_
  intro Γ Q cx rt
  unfold q_N_isWay at h
  refine v_aload_n cx 0 d_N_isWay_0 rfl rfl ?_
  refine gf_N_15 cx d_N_isWay_1 ?_
  refine v_iconst cx d_N_isWay_4 ?_
  refine v_iload_n cx 3 d_N_isWay_5 rfl rfl ?_
  refine v_iconst cx d_N_isWay_6 ?_
  refine v_callVv0 (st := []) cx (s_W_prepare ⟨by decide, by decide⟩ hgrade (Or.inl rfl) h) yk_W_prepare lk_N_51 zl_15 rfl rfl rfl (Nat.le_of_ble_eq_true rfl) ⟨Nat.le_of_ble_eq_true rfl, Nat.le_of_ble_eq_true rfl⟩ ⟨rfl, rfl⟩ ⟨(Nat.le_of_ble_eq_true rfl), (Nat.le_of_ble_eq_true rfl)⟩ d_N_isWay_7 (fun σ1 h => ?_)
  refine v_aload_n cx 0 d_N_isWay_10 rfl rfl ?_
  refine gf_N_15 cx d_N_isWay_11 ?_
  refine v_iload_n cx 1 d_N_isWay_14 rfl rfl ?_
  refine v_iload_n cx 2 d_N_isWay_15 rfl rfl ?_
  refine v_aload_n cx 0 d_N_isWay_16 rfl rfl ?_
  refine gf_N_19 cx d_N_isWay_17 ?_
  refine v_callVz0 (st := []) cx (s_W_spread hfrom_ hto_ h) yk_W_spread lk_N_57 zl_15 rfl rfl rfl (Nat.le_of_ble_eq_true rfl) ⟨Nat.le_of_ble_eq_true rfl, Nat.le_of_ble_eq_true rfl⟩ ⟨rfl, rfl⟩ ⟨(Nat.le_of_ble_eq_true rfl), (Nat.le_of_ble_eq_true rfl)⟩ d_N_isWay_20 (fun r3 σ2 hr3 h => ?_)
  exact rt _ _ _ _ _ _ (Nat.le_of_ble_eq_true rfl) (Nat.le_of_ble_eq_true rfl) d_N_isWay_23 hr3 h
def q_N_leastGrade (from_ : Int) (to_ : Int) (K : Int → zS → Prop) (σ : zS) : Prop :=
  q_N_isWay from_ to_ 99 (fun r2 σ1 =>
    (r2 ≠ 0 →
      ∃ (I19 : Int → Int → zS → Prop) (μ19 : Int → Int → zS → Nat), (I19 1 99 σ1) ∧ ∀ (y4 y5 : Int) (σ6 : zS), I19 y4 y5 σ6 → zR y4 → zR y5 → 
      (y5 ≤ y4 →
        K y5 σ6) ∧ (y4 < y5 →
        zR (y4 + y5) ∧ (∀ x9 : Int, x9 = Int.tdiv (y4 + y5) 2 → zR x9 ∧ (q_N_isWay from_ to_ x9 (fun r12 σ11 =>
              (r12 = 0 →
                ∀ x14 : Int, x14 = x9 + 1 → I19 x14 y5 σ11 ∧ zR x14 ∧ μ19 x14 y5 σ11 < μ19 y4 y5 σ6) ∧ (r12 ≠ 0 →
                I19 y4 x9 σ11 ∧ μ19 y4 x9 σ11 < μ19 y4 y5 σ6)) σ6)))) ∧ (r2 = 0 →
      K (-1) σ1)) σ
abbrev rm_N_leastGrade : Room := { frames := 5, cells := 0, slots := 0, locals := 124 }
set_option maxRecDepth 20000 in
set_option maxHeartbeats 4000000 in
theorem s_N_leastGrade {Ω : zO} {ad : Nat → Nat} {from_ : Int} {to_ : Int} {K : Int → zS → Prop} {σ : zS} (hfrom_ : zR from_) (hto_ : zR to_) (h : q_N_leastGrade from_ to_ K σ) : zMi Ω y_N_leastGrade (.code y_N_leastGrade c_N_leastGrade 6 (some .int)) rm_N_leastGrade zLy ad [.ref (ad 28), .int (zI from_), .int (zI to_)] σ K := by
  refine z_ofi (lv := [(0, .ref (ad 28)), (1, .int (zI from_)), (2, .int (zI to_))]) (by decide) rfl (Nat.le_of_ble_eq_true rfl) ?_
  intro Γ Q cx rt
  unfold q_N_leastGrade at h
  refine v_aload_n cx 0 d_N_leastGrade_0 rfl rfl ?_
  refine v_iload_n cx 1 d_N_leastGrade_1 rfl rfl ?_
  refine v_iload_n cx 2 d_N_leastGrade_2 rfl rfl ?_
  refine v_bipush cx (by decide) d_N_leastGrade_3 ?_
  refine v_callVz0 (st := []) cx (s_N_isWay hfrom_ hto_ ⟨by decide, by decide⟩ h) yk_N_isWay lk_N_65 zl_28 rfl rfl rfl (Nat.le_of_ble_eq_true rfl) ⟨Nat.le_of_ble_eq_true rfl, Nat.le_of_ble_eq_true rfl⟩ ⟨rfl, rfl⟩ ⟨(Nat.le_of_ble_eq_true rfl), (Nat.le_of_ble_eq_true rfl)⟩ d_N_leastGrade_5 (fun r2 σ1 hr2 h => ?_)
  refine v_if_ne cx 13 d_N_leastGrade_8 (by decide) (zR_b hr2) (fun c3 => ?_) (fun c3 => ?_)
  · replace h := h.1 c3
    refine v_iconst cx d_N_leastGrade_13 ?_
    refine v_istore_n (lv' := [(0, .ref (ad 28)), (1, .int (zI from_)), (2, .int (zI to_)), (3, .int (zI 1))]) cx d_N_leastGrade_14 rfl (by decide) rfl rfl ?_
    refine v_bipush cx (by decide) d_N_leastGrade_15 ?_
    refine v_istore (lv' := [(0, .ref (ad 28)), (1, .int (zI from_)), (2, .int (zI to_)), (3, .int (zI 1)), (4, .int (zI 99))]) cx d_N_leastGrade_17 (by decide) rfl rfl ?_
    obtain ⟨I19, μ19, h0, h⟩ := h
    have L19 : ∀ (N19 : Nat) (y4 y5 : Int) (σ6 : zS), μ19 y4 y5 σ6 < N19 → I19 y4 y5 σ6 → zR y4 → zR y5 → zV Ω Γ rm_N_leastGrade 6 Q 0 0 zLy ad σ6 19 [(0, .ref (ad 28)), (1, .int (zI from_)), (2, .int (zI to_)), (3, .int (zI y4)), (4, .int (zI y5))] [] := by
      intro N19
      induction N19 with
      | zero => intro y4 y5 σ6 hm; exact absurd hm (Nat.not_lt_zero _)
      | succ N19 ih19 =>
        intro y4 y5 σ6 hmm19 hI hy4 hy5
        replace h := h y4 y5 σ6 hI hy4 hy5
        refine v_iload_n cx 3 d_N_leastGrade_19 rfl rfl ?_
        refine v_iload cx 4 d_N_leastGrade_20 rfl ?_
        refine v_icmp_ge cx 59 d_N_leastGrade_22 (by decide) hy4 hy5 (fun c7 => ?_) (fun c7 => ?_)
        · replace h := h.1 c7
          refine v_iload cx 4 d_N_leastGrade_59 rfl ?_
          exact rt _ _ _ _ _ _ (Nat.le_of_ble_eq_true rfl) (Nat.le_of_ble_eq_true rfl) d_N_leastGrade_61 hy5 h
        · replace h := h.2 c7
          refine v_iload_n cx 3 d_N_leastGrade_25 rfl rfl ?_
          refine v_iload cx 4 d_N_leastGrade_26 rfl ?_
          refine v_iadd cx d_N_leastGrade_28 ?_
          refine v_iconst cx d_N_leastGrade_29 ?_
          obtain ⟨hr8, h⟩ := h
          refine v_idiv cx d_N_leastGrade_30 hr8 ⟨by decide, by decide⟩ (by decide) (Or.inr (by decide)) ?_
          refine v_nm (fun x9 ex9 => ?_)
          replace h := h x9 ex9
          refine v_istore (lv' := [(0, .ref (ad 28)), (1, .int (zI from_)), (2, .int (zI to_)), (3, .int (zI y4)), (4, .int (zI y5)), (5, .int (zI x9))]) cx d_N_leastGrade_31 (by decide) rfl rfl ?_
          refine v_aload_n cx 0 d_N_leastGrade_33 rfl rfl ?_
          refine v_iload_n cx 1 d_N_leastGrade_34 rfl rfl ?_
          refine v_iload_n cx 2 d_N_leastGrade_35 rfl rfl ?_
          refine v_iload cx 5 d_N_leastGrade_36 rfl ?_
          obtain ⟨hr10, h⟩ := h
          refine v_callVz0 (st := []) cx (s_N_isWay hfrom_ hto_ hr10 h) yk_N_isWay lk_N_65 zl_28 rfl rfl rfl (Nat.le_of_ble_eq_true rfl) ⟨Nat.le_of_ble_eq_true rfl, Nat.le_of_ble_eq_true rfl⟩ ⟨rfl, rfl⟩ ⟨(Nat.le_of_ble_eq_true rfl), (Nat.le_of_ble_eq_true rfl)⟩ d_N_leastGrade_38 (fun r12 σ11 hr12 h => ?_)
          refine v_if_eq cx 51 d_N_leastGrade_41 (by decide) (zR_b hr12) (fun c13 => ?_) (fun c13 => ?_)
          · replace h := h.1 c13
            refine v_iload cx 5 d_N_leastGrade_51 rfl ?_
            refine v_iconst cx d_N_leastGrade_53 ?_
            refine v_iadd cx d_N_leastGrade_54 ?_
            refine v_nm (fun x14 ex14 => ?_)
            replace h := h x14 ex14
            refine v_istore_n (lv' := [(0, .ref (ad 28)), (1, .int (zI from_)), (2, .int (zI to_)), (3, .int (zI x14)), (4, .int (zI y5)), (5, .int (zI x9))]) cx d_N_leastGrade_55 rfl (by decide) rfl rfl ?_
            refine v_goto cx 19 d_N_leastGrade_56 (by decide) ?_
            refine v_sb (lv' := [(0, .ref (ad 28)), (1, .int (zI from_)), (2, .int (zI to_)), (3, .int (zI x14)), (4, .int (zI y5))]) [0, 1, 2, 3, 4] rfl ?_
            obtain ⟨hI2, hz15, hm2⟩ := h
            exact ih19 _ _ _ (Nat.lt_of_lt_of_le hm2 (Nat.le_of_lt_succ hmm19)) hI2 hz15 hy5
          · replace h := h.2 c13
            refine v_iload cx 5 d_N_leastGrade_44 rfl ?_
            refine v_istore (lv' := [(0, .ref (ad 28)), (1, .int (zI from_)), (2, .int (zI to_)), (3, .int (zI y4)), (4, .int (zI x9)), (5, .int (zI x9))]) cx d_N_leastGrade_46 (by decide) rfl rfl ?_
            refine v_goto cx 56 d_N_leastGrade_48 (by decide) ?_
            refine v_goto cx 19 d_N_leastGrade_56 (by decide) ?_
            refine v_sb (lv' := [(0, .ref (ad 28)), (1, .int (zI from_)), (2, .int (zI to_)), (3, .int (zI y4)), (4, .int (zI x9))]) [0, 1, 2, 3, 4] rfl ?_
            obtain ⟨hI2, hm2⟩ := h
            exact ih19 _ _ _ (Nat.lt_of_lt_of_le hm2 (Nat.le_of_lt_succ hmm19)) hI2 hy4 hr10
    exact L19 _ _ _ _ (Nat.lt_succ_self _) h0 ⟨by decide, by decide⟩ ⟨by decide, by decide⟩
  · replace h := h.2 c3
    refine v_iconst cx d_N_leastGrade_11 ?_
    exact rt _ _ _ _ _ _ (Nat.le_of_ble_eq_true rfl) (Nat.le_of_ble_eq_true rfl) d_N_leastGrade_12 ⟨by decide, by decide⟩ h
def q_N_isWayWithout (place : Int) (from_ : Int) (to_ : Int) (K : Int → zS → Prop) (σ : zS) : Prop :=
  q_L_isWet place (fun r2 σ1 =>
    (r2 = 0 →
      q_L_setWet place 1 (fun σ4 =>
        q_L_value 0 (fun r6 σ5 =>
          q_N_isWay from_ to_ r6 (fun r8 σ7 =>
            q_L_setWet place 0 (fun σ9 =>
              K r8 σ9) σ7) σ5) σ4) σ1) ∧ (r2 ≠ 0 →
      K 1 σ1)) σ
abbrev rm_N_isWayWithout : Room := { frames := 5, cells := 0, slots := 0, locals := 124 }
set_option maxRecDepth 20000 in
set_option maxHeartbeats 4000000 in
theorem s_N_isWayWithout {Ω : zO} {ad : Nat → Nat} {place : Int} {from_ : Int} {to_ : Int} {K : Int → zS → Prop} {σ : zS} (hplace : zR place) (hfrom_ : zR from_) (hto_ : zR to_) (h : q_N_isWayWithout place from_ to_ K σ) : zMz Ω y_N_isWayWithout (.code y_N_isWayWithout c_N_isWayWithout 5 (some .boolean)) rm_N_isWayWithout zLy ad [.ref (ad 28), .int (zI place), .int (zI from_), .int (zI to_)] σ K := by
  refine z_ofz (lv := [(0, .ref (ad 28)), (1, .int (zI place)), (2, .int (zI from_)), (3, .int (zI to_))]) (by decide) rfl (Nat.le_of_ble_eq_true rfl) ?_
  intro Γ Q cx rt
  unfold q_N_isWayWithout at h
  refine v_aload_n cx 0 d_N_isWayWithout_0 rfl rfl ?_
  refine gf_N_9 cx d_N_isWayWithout_1 ?_
  refine v_iload_n cx 1 d_N_isWayWithout_4 rfl rfl ?_
  refine v_callVz0 (st := []) cx (s_L_isWet hplace h) yk_L_isWet lk_N_99 zl_3 rfl rfl rfl (Nat.le_of_ble_eq_true rfl) ⟨Nat.le_of_ble_eq_true rfl, Nat.le_of_ble_eq_true rfl⟩ ⟨rfl, rfl⟩ ⟨(Nat.le_of_ble_eq_true rfl), (Nat.le_of_ble_eq_true rfl)⟩ d_N_isWayWithout_5 (fun r2 σ1 hr2 h => ?_)
  refine v_if_eq cx 13 d_N_isWayWithout_8 (by decide) (zR_b hr2) (fun c3 => ?_) (fun c3 => ?_)
  · replace h := h.1 c3
    refine v_aload_n cx 0 d_N_isWayWithout_13 rfl rfl ?_
    refine gf_N_9 cx d_N_isWayWithout_14 ?_
    refine v_iload_n cx 1 d_N_isWayWithout_17 rfl rfl ?_
    refine v_iconst cx d_N_isWayWithout_18 ?_
    refine v_callVv0 (st := []) cx (s_L_setWet hplace (Or.inr rfl) h) yk_L_setWet lk_N_103 zl_3 rfl rfl rfl (Nat.le_of_ble_eq_true rfl) ⟨Nat.le_of_ble_eq_true rfl, Nat.le_of_ble_eq_true rfl⟩ ⟨rfl, rfl⟩ ⟨(Nat.le_of_ble_eq_true rfl), (Nat.le_of_ble_eq_true rfl)⟩ d_N_isWayWithout_19 (fun σ4 h => ?_)
    refine v_aload_n cx 0 d_N_isWayWithout_22 rfl rfl ?_
    refine v_iload_n cx 2 d_N_isWayWithout_23 rfl rfl ?_
    refine v_iload_n cx 3 d_N_isWayWithout_24 rfl rfl ?_
    refine v_aload_n cx 0 d_N_isWayWithout_25 rfl rfl ?_
    refine gf_N_9 cx d_N_isWayWithout_26 ?_
    refine v_iconst cx d_N_isWayWithout_29 ?_
    refine v_callVi0 (st := [.int (zI to_), .int (zI from_), .ref (ad 28)]) cx (s_L_value ⟨by decide, by decide⟩ h) yk_L_value lk_N_45 zl_3 rfl rfl rfl (Nat.le_of_ble_eq_true rfl) ⟨Nat.le_of_ble_eq_true rfl, Nat.le_of_ble_eq_true rfl⟩ ⟨rfl, rfl⟩ ⟨(Nat.le_of_ble_eq_true rfl), (Nat.le_of_ble_eq_true rfl)⟩ d_N_isWayWithout_30 (fun r6 σ5 hr6 h => ?_)
    refine v_callVz0 (st := []) cx (s_N_isWay hfrom_ hto_ hr6 h) yk_N_isWay lk_N_65 zl_28 rfl rfl rfl (Nat.le_of_ble_eq_true rfl) ⟨Nat.le_of_ble_eq_true rfl, Nat.le_of_ble_eq_true rfl⟩ ⟨rfl, rfl⟩ ⟨(Nat.le_of_ble_eq_true rfl), (Nat.le_of_ble_eq_true rfl)⟩ d_N_isWayWithout_33 (fun r8 σ7 hr8 h => ?_)
    refine v_istore (lv' := [(0, .ref (ad 28)), (1, .int (zI place)), (2, .int (zI from_)), (3, .int (zI to_)), (4, .int (zI r8))]) cx d_N_isWayWithout_36 (by decide) rfl rfl ?_
    refine v_aload_n cx 0 d_N_isWayWithout_38 rfl rfl ?_
    refine gf_N_9 cx d_N_isWayWithout_39 ?_
    refine v_iload_n cx 1 d_N_isWayWithout_42 rfl rfl ?_
    refine v_iconst cx d_N_isWayWithout_43 ?_
    refine v_callVv0 (st := []) cx (s_L_setWet hplace (Or.inl rfl) h) yk_L_setWet lk_N_103 zl_3 rfl rfl rfl (Nat.le_of_ble_eq_true rfl) ⟨Nat.le_of_ble_eq_true rfl, Nat.le_of_ble_eq_true rfl⟩ ⟨rfl, rfl⟩ ⟨(Nat.le_of_ble_eq_true rfl), (Nat.le_of_ble_eq_true rfl)⟩ d_N_isWayWithout_44 (fun σ9 h => ?_)
    refine v_iload cx 4 d_N_isWayWithout_47 rfl ?_
    exact rt _ _ _ _ _ _ (Nat.le_of_ble_eq_true rfl) (Nat.le_of_ble_eq_true rfl) d_N_isWayWithout_49 hr8 h
  · replace h := h.2 c3
    refine v_iconst cx d_N_isWayWithout_11 ?_
    exact rt _ _ _ _ _ _ (Nat.le_of_ble_eq_true rfl) (Nat.le_of_ble_eq_true rfl) d_N_isWayWithout_12 (Or.inr rfl) h
