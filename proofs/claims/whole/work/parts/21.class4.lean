def q_N_markTouched (K : zS → Prop) (σ : zS) : Prop :=
  q_W_path (fun σ1 =>
    q_J_fill2 30 81 0 (fun σ2 =>
      ∃ (I18 : Int → zS → Prop) (μ18 : Int → zS → Nat), (I18 0 σ2) ∧ ∀ (y3 : Int) (σ4 : zS), I18 y3 σ4 → zR y3 → 
      q_W_pathSize (fun r6 σ5 =>
        zR (y3 + 1) ∧ ((r6 ≤ (y3 + 1) →
            K σ5) ∧ ((y3 + 1) < r6 →
            (0 ≤ y3 ∧ y3 < 649) ∧ ((0 ≤ y3 + 1 ∧ y3 + 1 < 649) ∧ (q_L_headingTo (σ5 25 y3) (σ5 25 (y3 + 1)) (fun r14 σ13 =>
                  (0 ≤ σ13 25 (y3 + 1) ∧ σ13 25 (y3 + 1) < 81) ∧ (∀ σ17 : zS, σ17 = zU σ13 30 (σ13 25 (y3 + 1)) 1 → ((zAnd r14 1) = 0 →
                      I18 (y3 + 1) σ17 ∧ μ18 (y3 + 1) σ17 < μ18 y3 σ4) ∧ ((zAnd r14 1) ≠ 0 →
                      zR (r14 - 1) ∧ (q_L_besideOf (σ17 25 y3) (r14 - 1) (fun r23 σ22 =>
                          (0 ≤ r23 ∧ r23 < 81) ∧ (∀ σ25 : zS, σ25 = zU σ22 30 r23 1 → q_L_besideOf (σ25 25 y3) (zAnd (r14 + 1) 7) (fun r28 σ27 =>
                              (0 ≤ r28 ∧ r28 < 81) ∧ (∀ σ30 : zS, σ30 = zU σ27 30 r28 1 → I18 (y3 + 1) σ30 ∧ μ18 (y3 + 1) σ30 < μ18 y3 σ4)) σ25)) σ17)))) σ5))))) σ4) σ1) σ
abbrev rm_N_markTouched : Room := { frames := 1, cells := 0, slots := 0, locals := 23 }
set_option maxRecDepth 20000 in
set_option maxHeartbeats 4000000 in
theorem s_N_markTouched {Ω : zO} {ad : Nat → Nat} {K : zS → Prop} {σ : zS}  (h : q_N_markTouched K σ) : zMv Ω y_N_markTouched (.code y_N_markTouched c_N_markTouched 4 none) rm_N_markTouched zLy ad [.ref (ad 28)] σ K := by
  refine z_ofv (lv := [(0, .ref (ad 28))]) (by decide) rfl (Nat.le_of_ble_eq_true rfl) ?_
  intro Γ Q cx rt
  unfold q_N_markTouched at h
  refine v_aload_n cx 0 d_N_markTouched_0 rfl rfl ?_
  refine gf_N_15 cx d_N_markTouched_1 ?_
  refine v_callVr0 (st := []) cx (s_W_path  h) yk_W_path lk_N_79 zl_15 rfl rfl rfl (Nat.le_of_ble_eq_true rfl) ⟨Nat.le_of_ble_eq_true rfl, Nat.le_of_ble_eq_true rfl⟩ ⟨rfl, rfl⟩ ⟨(Nat.le_of_ble_eq_true rfl), (Nat.le_of_ble_eq_true rfl)⟩ d_N_markTouched_4 (fun ra σ1 h => ?_)
  obtain ⟨rfl, h⟩ := h
  refine v_astore_n (lv' := [(0, .ref (ad 28)), (1, .ref (ad 25))]) cx d_N_markTouched_7 rfl (by decide) rfl rfl ?_
  refine v_aload_n cx 0 d_N_markTouched_8 rfl rfl ?_
  refine gf_N_23 cx d_N_markTouched_9 ?_
  refine v_iconst cx d_N_markTouched_12 ?_
  refine v_callSv0 (st := []) cx (s_J_fill2 (o := 30) zl_30 (by decide) ⟨by decide, by decide⟩ h) yk_J_fill2 lk_N_83 rfl rfl (Nat.le_of_ble_eq_true rfl) ⟨Nat.le_of_ble_eq_true rfl, Nat.le_of_ble_eq_true rfl⟩ ⟨rfl, rfl⟩ ⟨Nat.le_of_ble_eq_true rfl, Nat.le_of_ble_eq_true rfl⟩ d_N_markTouched_13 (fun σ2 h => ?_)
  refine v_iconst cx d_N_markTouched_16 ?_
  refine v_istore_n (lv' := [(0, .ref (ad 28)), (1, .ref (ad 25)), (2, .int (zI 0))]) cx d_N_markTouched_17 rfl (by decide) rfl rfl ?_
  obtain ⟨I18, μ18, h0, h⟩ := h
  have L18 : ∀ (N18 : Nat) (y3 : Int) (σ4 : zS), μ18 y3 σ4 < N18 → I18 y3 σ4 → zR y3 → zV Ω Γ rm_N_markTouched 4 Q 0 0 zLy ad σ4 18 [(0, .ref (ad 28)), (1, .ref (ad 25)), (2, .int (zI y3))] [] := by
    intro N18
    induction N18 with
    | zero => intro y3 σ4 hm; exact absurd hm (Nat.not_lt_zero _)
    | succ N18 ih18 =>
      intro y3 σ4 hmm18 hI hy3
      replace h := h y3 σ4 hI hy3
      refine v_iload_n cx 2 d_N_markTouched_18 rfl rfl ?_
      refine v_iconst cx d_N_markTouched_19 ?_
      refine v_iadd cx d_N_markTouched_20 ?_
      refine v_aload_n cx 0 d_N_markTouched_21 rfl rfl ?_
      refine gf_N_15 cx d_N_markTouched_22 ?_
      refine v_callVi0 (st := [.int (zI (y3 + 1))]) cx (s_W_pathSize  h) yk_W_pathSize lk_N_89 zl_15 rfl rfl rfl (Nat.le_of_ble_eq_true rfl) ⟨Nat.le_of_ble_eq_true rfl, Nat.le_of_ble_eq_true rfl⟩ ⟨rfl, rfl⟩ ⟨(Nat.le_of_ble_eq_true rfl), (Nat.le_of_ble_eq_true rfl)⟩ d_N_markTouched_25 (fun r6 σ5 hr6 h => ?_)
      obtain ⟨hr7, h⟩ := h
      refine v_icmp_ge cx 111 d_N_markTouched_28 (by decide) hr7 hr6 (fun c8 => ?_) (fun c8 => ?_)
      · replace h := h.1 c8
        exact rt _ _ _ _ _ (Nat.le_of_ble_eq_true rfl) (Nat.le_of_ble_eq_true rfl) d_N_markTouched_111 h
      · replace h := h.2 c8
        refine v_aload_n cx 0 d_N_markTouched_31 rfl rfl ?_
        refine gf_N_9 cx d_N_markTouched_32 ?_
        refine v_aload_n cx 1 d_N_markTouched_35 rfl rfl ?_
        refine v_iload_n cx 2 d_N_markTouched_36 rfl rfl ?_
        obtain ⟨hb9, h⟩ := h
        refine v_iald cx zl_25 (by decide) hb9.1 hb9.2 d_N_markTouched_37 (fun hl10 => ?_)
        refine v_aload_n cx 1 d_N_markTouched_38 rfl rfl ?_
        refine v_iload_n cx 2 d_N_markTouched_39 rfl rfl ?_
        refine v_iconst cx d_N_markTouched_40 ?_
        refine v_iadd cx d_N_markTouched_41 ?_
        obtain ⟨hb11, h⟩ := h
        refine v_iald cx zl_25 (by decide) hb11.1 hb11.2 d_N_markTouched_42 (fun hl12 => ?_)
        refine v_callVi0 (st := []) cx (s_L_headingTo hl10 hl12 h) yk_L_headingTo lk_N_92 zl_3 rfl rfl rfl (Nat.le_of_ble_eq_true rfl) ⟨Nat.le_of_ble_eq_true rfl, Nat.le_of_ble_eq_true rfl⟩ ⟨rfl, rfl⟩ ⟨(Nat.le_of_ble_eq_true rfl), (Nat.le_of_ble_eq_true rfl)⟩ d_N_markTouched_43 (fun r14 σ13 hr14 h => ?_)
        refine v_istore_n (lv' := [(0, .ref (ad 28)), (1, .ref (ad 25)), (2, .int (zI y3)), (3, .int (zI r14))]) cx d_N_markTouched_46 rfl (by decide) rfl rfl ?_
        refine v_aload_n cx 0 d_N_markTouched_47 rfl rfl ?_
        refine gf_N_23 cx d_N_markTouched_48 ?_
        refine v_aload_n cx 1 d_N_markTouched_51 rfl rfl ?_
        refine v_iload_n cx 2 d_N_markTouched_52 rfl rfl ?_
        refine v_iconst cx d_N_markTouched_53 ?_
        refine v_iadd cx d_N_markTouched_54 ?_
        refine v_iald cx zl_25 (by decide) hb11.1 hb11.2 d_N_markTouched_55 (fun hl15 => ?_)
        refine v_iconst cx d_N_markTouched_56 ?_
        obtain ⟨hb16, h⟩ := h
        refine v_iast cx zl_30 (by decide) hb16.1 hb16.2 ⟨by decide, by decide⟩ d_N_markTouched_57 ?_
        refine v_ns (fun σ17 eσ17 => ?_)
        replace h := h σ17 eσ17
        refine v_iload_n cx 3 d_N_markTouched_58 rfl rfl ?_
        refine v_iconst cx d_N_markTouched_59 ?_
        refine v_iand cx d_N_markTouched_60 ?_
        refine v_if_eq cx 105 d_N_markTouched_61 (by decide) (zR_and _ _) (fun c18 => ?_) (fun c18 => ?_)
        · replace h := h.1 c18
          refine v_iinc (lv' := [(0, .ref (ad 28)), (1, .ref (ad 25)), (2, .int (zI (y3 + 1))), (3, .int (zI r14))]) cx 2 d_N_markTouched_105 rfl (by decide) rfl rfl ?_
          refine v_goto cx 18 d_N_markTouched_108 (by decide) ?_
          refine v_sb (lv' := [(0, .ref (ad 28)), (1, .ref (ad 25)), (2, .int (zI (y3 + 1)))]) [0, 1, 2] rfl ?_
          obtain ⟨hI2, hm2⟩ := h
          exact ih18 _ _ (Nat.lt_of_lt_of_le hm2 (Nat.le_of_lt_succ hmm18)) hI2 hr7
        · replace h := h.2 c18
          refine v_aload_n cx 0 d_N_markTouched_64 rfl rfl ?_
          refine gf_N_23 cx d_N_markTouched_65 ?_
          refine v_aload_n cx 0 d_N_markTouched_68 rfl rfl ?_
          refine gf_N_9 cx d_N_markTouched_69 ?_
          refine v_aload_n cx 1 d_N_markTouched_72 rfl rfl ?_
          refine v_iload_n cx 2 d_N_markTouched_73 rfl rfl ?_
          refine v_iald cx zl_25 (by decide) hb9.1 hb9.2 d_N_markTouched_74 (fun hl20 => ?_)
          refine v_iload_n cx 3 d_N_markTouched_75 rfl rfl ?_
          refine v_iconst cx d_N_markTouched_76 ?_
          refine v_isub cx d_N_markTouched_77 ?_
          obtain ⟨hr21, h⟩ := h
          refine v_callVi0 (st := [.ref (ad 30)]) cx (s_L_besideOf hl20 hr21 h) yk_L_besideOf lk_N_96 zl_3 rfl rfl rfl (Nat.le_of_ble_eq_true rfl) ⟨Nat.le_of_ble_eq_true rfl, Nat.le_of_ble_eq_true rfl⟩ ⟨rfl, rfl⟩ ⟨(Nat.le_of_ble_eq_true rfl), (Nat.le_of_ble_eq_true rfl)⟩ d_N_markTouched_78 (fun r23 σ22 hr23 h => ?_)
          refine v_iconst cx d_N_markTouched_81 ?_
          obtain ⟨hb24, h⟩ := h
          refine v_iast cx zl_30 (by decide) hb24.1 hb24.2 ⟨by decide, by decide⟩ d_N_markTouched_82 ?_
          refine v_ns (fun σ25 eσ25 => ?_)
          replace h := h σ25 eσ25
          refine v_aload_n cx 0 d_N_markTouched_83 rfl rfl ?_
          refine gf_N_23 cx d_N_markTouched_84 ?_
          refine v_aload_n cx 0 d_N_markTouched_87 rfl rfl ?_
          refine gf_N_9 cx d_N_markTouched_88 ?_
          refine v_aload_n cx 1 d_N_markTouched_91 rfl rfl ?_
          refine v_iload_n cx 2 d_N_markTouched_92 rfl rfl ?_
          refine v_iald cx zl_25 (by decide) hb9.1 hb9.2 d_N_markTouched_93 (fun hl26 => ?_)
          refine v_iload_n cx 3 d_N_markTouched_94 rfl rfl ?_
          refine v_iconst cx d_N_markTouched_95 ?_
          refine v_iadd cx d_N_markTouched_96 ?_
          refine v_bipush cx (by decide) d_N_markTouched_97 ?_
          refine v_iand cx d_N_markTouched_99 ?_
          refine v_callVi0 (st := [.ref (ad 30)]) cx (s_L_besideOf hl26 (zR_and _ _) h) yk_L_besideOf lk_N_96 zl_3 rfl rfl rfl (Nat.le_of_ble_eq_true rfl) ⟨Nat.le_of_ble_eq_true rfl, Nat.le_of_ble_eq_true rfl⟩ ⟨rfl, rfl⟩ ⟨(Nat.le_of_ble_eq_true rfl), (Nat.le_of_ble_eq_true rfl)⟩ d_N_markTouched_100 (fun r28 σ27 hr28 h => ?_)
          refine v_iconst cx d_N_markTouched_103 ?_
          obtain ⟨hb29, h⟩ := h
          refine v_iast cx zl_30 (by decide) hb29.1 hb29.2 ⟨by decide, by decide⟩ d_N_markTouched_104 ?_
          refine v_ns (fun σ30 eσ30 => ?_)
          replace h := h σ30 eσ30
          refine v_iinc (lv' := [(0, .ref (ad 28)), (1, .ref (ad 25)), (2, .int (zI (y3 + 1))), (3, .int (zI r14))]) cx 2 d_N_markTouched_105 rfl (by decide) rfl rfl ?_
          refine v_goto cx 18 d_N_markTouched_108 (by decide) ?_
          refine v_sb (lv' := [(0, .ref (ad 28)), (1, .ref (ad 25)), (2, .int (zI (y3 + 1)))]) [0, 1, 2] rfl ?_
          obtain ⟨hI2, hm2⟩ := h
          exact ih18 _ _ (Nat.lt_of_lt_of_le hm2 (Nat.le_of_lt_succ hmm18)) hI2 hr7
  exact L18 _ _ _ (Nat.lt_succ_self _) h0 ⟨by decide, by decide⟩
def q_N_firstGate (from_ : Int) (to_ : Int) (K : Int → zS → Prop) (σ : zS) : Prop :=
  q_W_find from_ to_ 3 (fun r2 σ1 =>
    (r2 ≠ (-1) →
      q_N_markTouched (fun σ4 =>
        ∃ (I22 : Int → zS → Prop) (μ22 : Int → zS → Nat), (I22 0 σ4) ∧ ∀ (y5 : Int) (σ6 : zS), I22 y5 σ6 → zR y5 → 
        q_L_places (fun r8 σ7 =>
          (r8 ≤ y5 →
            K (-1) σ7) ∧ (y5 < r8 →
            (0 ≤ y5 ∧ y5 < 81) ∧ (((σ7 30 y5) = 0 →
                I22 (y5 + 1) σ7 ∧ zR (y5 + 1) ∧ μ22 (y5 + 1) σ7 < μ22 y5 σ6) ∧ ((σ7 30 y5) ≠ 0 →
                (y5 = from_ →
                  I22 (y5 + 1) σ7 ∧ zR (y5 + 1) ∧ μ22 (y5 + 1) σ7 < μ22 y5 σ6) ∧ (y5 ≠ from_ →
                  (y5 = to_ →
                    I22 (y5 + 1) σ7 ∧ zR (y5 + 1) ∧ μ22 (y5 + 1) σ7 < μ22 y5 σ6) ∧ (y5 ≠ to_ →
                    q_N_isWayWithout y5 from_ to_ (fun r22 σ21 =>
                      (r22 ≠ 0 →
                        I22 (y5 + 1) σ21 ∧ zR (y5 + 1) ∧ μ22 (y5 + 1) σ21 < μ22 y5 σ6) ∧ (r22 = 0 →
                        K y5 σ21)) σ7)))))) σ6) σ1) ∧ (r2 = (-1) →
      K (-1) σ1)) σ
abbrev rm_N_firstGate : Room := { frames := 6, cells := 0, slots := 0, locals := 148 }
set_option maxRecDepth 20000 in
set_option maxHeartbeats 4000000 in
theorem s_N_firstGate {Ω : zO} {ad : Nat → Nat} {from_ : Int} {to_ : Int} {K : Int → zS → Prop} {σ : zS} (hfrom_ : zR from_) (hto_ : zR to_) (h : q_N_firstGate from_ to_ K σ) : zMi Ω y_N_firstGate (.code y_N_firstGate c_N_firstGate 4 (some .int)) rm_N_firstGate zLy ad [.ref (ad 28), .int (zI from_), .int (zI to_)] σ K := by
  refine z_ofi (lv := [(0, .ref (ad 28)), (1, .int (zI from_)), (2, .int (zI to_))]) (by decide) rfl (Nat.le_of_ble_eq_true rfl) ?_
  intro Γ Q cx rt
  unfold q_N_firstGate at h
  refine v_aload_n cx 0 d_N_firstGate_0 rfl rfl ?_
  refine gf_N_15 cx d_N_firstGate_1 ?_
  refine v_iload_n cx 1 d_N_firstGate_4 rfl rfl ?_
  refine v_iload_n cx 2 d_N_firstGate_5 rfl rfl ?_
  refine v_iconst cx d_N_firstGate_6 ?_
  refine v_callVi0 (st := []) cx (s_W_find hfrom_ hto_ ⟨by decide, by decide⟩ h) yk_W_find lk_N_69 zl_15 rfl rfl rfl (Nat.le_of_ble_eq_true rfl) ⟨Nat.le_of_ble_eq_true rfl, Nat.le_of_ble_eq_true rfl⟩ ⟨rfl, rfl⟩ ⟨(Nat.le_of_ble_eq_true rfl), (Nat.le_of_ble_eq_true rfl)⟩ d_N_firstGate_7 (fun r2 σ1 hr2 h => ?_)
  refine v_iconst cx d_N_firstGate_10 ?_
  refine v_icmp_ne cx 16 d_N_firstGate_11 (by decide) hr2 ⟨by decide, by decide⟩ (fun c3 => ?_) (fun c3 => ?_)
  · replace h := h.1 c3
    refine v_aload_n cx 0 d_N_firstGate_16 rfl rfl ?_
    refine v_callVv0 (st := []) cx (s_N_markTouched  h) yk_N_markTouched lk_N_73 zl_28 rfl rfl rfl (Nat.le_of_ble_eq_true rfl) ⟨Nat.le_of_ble_eq_true rfl, Nat.le_of_ble_eq_true rfl⟩ ⟨rfl, rfl⟩ ⟨(Nat.le_of_ble_eq_true rfl), (Nat.le_of_ble_eq_true rfl)⟩ d_N_firstGate_17 (fun σ4 h => ?_)
    refine v_iconst cx d_N_firstGate_20 ?_
    refine v_istore_n (lv' := [(0, .ref (ad 28)), (1, .int (zI from_)), (2, .int (zI to_)), (3, .int (zI 0))]) cx d_N_firstGate_21 rfl (by decide) rfl rfl ?_
    obtain ⟨I22, μ22, h0, h⟩ := h
    have L22 : ∀ (N22 : Nat) (y5 : Int) (σ6 : zS), μ22 y5 σ6 < N22 → I22 y5 σ6 → zR y5 → zV Ω Γ rm_N_firstGate 4 Q 0 0 zLy ad σ6 22 [(0, .ref (ad 28)), (1, .int (zI from_)), (2, .int (zI to_)), (3, .int (zI y5))] [] := by
      intro N22
      induction N22 with
      | zero => intro y5 σ6 hm; exact absurd hm (Nat.not_lt_zero _)
      | succ N22 ih22 =>
        intro y5 σ6 hmm22 hI hy5
        replace h := h y5 σ6 hI hy5
        refine v_iload_n cx 3 d_N_firstGate_22 rfl rfl ?_
        refine v_aload_n cx 0 d_N_firstGate_23 rfl rfl ?_
        refine gf_N_9 cx d_N_firstGate_24 ?_
        refine v_callVi0 (st := [.int (zI y5)]) cx (s_L_places  h) yk_L_places lk_N_61 zl_3 rfl rfl rfl (Nat.le_of_ble_eq_true rfl) ⟨Nat.le_of_ble_eq_true rfl, Nat.le_of_ble_eq_true rfl⟩ ⟨rfl, rfl⟩ ⟨(Nat.le_of_ble_eq_true rfl), (Nat.le_of_ble_eq_true rfl)⟩ d_N_firstGate_27 (fun r8 σ7 hr8 h => ?_)
        refine v_icmp_ge cx 70 d_N_firstGate_30 (by decide) hy5 hr8 (fun c9 => ?_) (fun c9 => ?_)
        · replace h := h.1 c9
          refine v_iconst cx d_N_firstGate_70 ?_
          exact rt _ _ _ _ _ _ (Nat.le_of_ble_eq_true rfl) (Nat.le_of_ble_eq_true rfl) d_N_firstGate_71 ⟨by decide, by decide⟩ h
        · replace h := h.2 c9
          refine v_aload_n cx 0 d_N_firstGate_33 rfl rfl ?_
          refine gf_N_23 cx d_N_firstGate_34 ?_
          refine v_iload_n cx 3 d_N_firstGate_37 rfl rfl ?_
          obtain ⟨hb10, h⟩ := h
          refine v_iald cx zl_30 (by decide) hb10.1 hb10.2 d_N_firstGate_38 (fun hl11 => ?_)
          refine v_if_eq cx 64 d_N_firstGate_39 (by decide) hl11 (fun c12 => ?_) (fun c12 => ?_)
          · replace h := h.1 c12
            refine v_iinc (lv' := [(0, .ref (ad 28)), (1, .int (zI from_)), (2, .int (zI to_)), (3, .int (zI (y5 + 1)))]) cx 3 d_N_firstGate_64 rfl (by decide) rfl rfl ?_
            refine v_goto cx 22 d_N_firstGate_67 (by decide) ?_
            obtain ⟨hI2, hz14, hm2⟩ := h
            exact ih22 _ _ (Nat.lt_of_lt_of_le hm2 (Nat.le_of_lt_succ hmm22)) hI2 hz14
          · replace h := h.2 c12
            refine v_iload_n cx 3 d_N_firstGate_42 rfl rfl ?_
            refine v_iload_n cx 1 d_N_firstGate_43 rfl rfl ?_
            refine v_icmp_eq cx 64 d_N_firstGate_44 (by decide) hy5 hfrom_ (fun c15 => ?_) (fun c15 => ?_)
            · replace h := h.1 c15
              refine v_iinc (lv' := [(0, .ref (ad 28)), (1, .int (zI from_)), (2, .int (zI to_)), (3, .int (zI (y5 + 1)))]) cx 3 d_N_firstGate_64 rfl (by decide) rfl rfl ?_
              refine v_goto cx 22 d_N_firstGate_67 (by decide) ?_
              obtain ⟨hI2, hz17, hm2⟩ := h
              exact ih22 _ _ (Nat.lt_of_lt_of_le hm2 (Nat.le_of_lt_succ hmm22)) hI2 hz17
            · replace h := h.2 c15
              refine v_iload_n cx 3 d_N_firstGate_47 rfl rfl ?_
              refine v_iload_n cx 2 d_N_firstGate_48 rfl rfl ?_
              refine v_icmp_eq cx 64 d_N_firstGate_49 (by decide) hy5 hto_ (fun c18 => ?_) (fun c18 => ?_)
              · replace h := h.1 c18
                refine v_iinc (lv' := [(0, .ref (ad 28)), (1, .int (zI from_)), (2, .int (zI to_)), (3, .int (zI (y5 + 1)))]) cx 3 d_N_firstGate_64 rfl (by decide) rfl rfl ?_
                refine v_goto cx 22 d_N_firstGate_67 (by decide) ?_
                obtain ⟨hI2, hz20, hm2⟩ := h
                exact ih22 _ _ (Nat.lt_of_lt_of_le hm2 (Nat.le_of_lt_succ hmm22)) hI2 hz20
              · replace h := h.2 c18
                refine v_aload_n cx 0 d_N_firstGate_52 rfl rfl ?_
                refine v_iload_n cx 3 d_N_firstGate_53 rfl rfl ?_
                refine v_iload_n cx 1 d_N_firstGate_54 rfl rfl ?_
                refine v_iload_n cx 2 d_N_firstGate_55 rfl rfl ?_
                refine v_callVz0 (st := []) cx (s_N_isWayWithout hy5 hfrom_ hto_ h) yk_N_isWayWithout lk_N_76 zl_28 rfl rfl rfl (Nat.le_of_ble_eq_true rfl) ⟨Nat.le_of_ble_eq_true rfl, Nat.le_of_ble_eq_true rfl⟩ ⟨rfl, rfl⟩ ⟨(Nat.le_of_ble_eq_true rfl), (Nat.le_of_ble_eq_true rfl)⟩ d_N_firstGate_56 (fun r22 σ21 hr22 h => ?_)
                refine v_if_ne cx 64 d_N_firstGate_59 (by decide) (zR_b hr22) (fun c23 => ?_) (fun c23 => ?_)
                · replace h := h.1 c23
                  refine v_iinc (lv' := [(0, .ref (ad 28)), (1, .int (zI from_)), (2, .int (zI to_)), (3, .int (zI (y5 + 1)))]) cx 3 d_N_firstGate_64 rfl (by decide) rfl rfl ?_
                  refine v_goto cx 22 d_N_firstGate_67 (by decide) ?_
                  obtain ⟨hI2, hz25, hm2⟩ := h
                  exact ih22 _ _ (Nat.lt_of_lt_of_le hm2 (Nat.le_of_lt_succ hmm22)) hI2 hz25
                · replace h := h.2 c23
                  refine v_iload_n cx 3 d_N_firstGate_62 rfl rfl ?_
                  exact rt _ _ _ _ _ _ (Nat.le_of_ble_eq_true rfl) (Nat.le_of_ble_eq_true rfl) d_N_firstGate_63 hy5 h
    exact L22 _ _ _ (Nat.lt_succ_self _) h0 ⟨by decide, by decide⟩
  · replace h := h.2 c3
    refine v_iconst cx d_N_firstGate_14 ?_
    exact rt _ _ _ _ _ _ (Nat.le_of_ble_eq_true rfl) (Nat.le_of_ble_eq_true rfl) d_N_firstGate_15 ⟨by decide, by decide⟩ h
def q_N_clearSums (K : zS → Prop) (σ : zS) : Prop :=
  q_J_fill2 31 81 0 (fun σ1 =>
    K σ1) σ
abbrev rm_N_clearSums : Room := { frames := 1, cells := 0, slots := 0, locals := 23 }
set_option maxRecDepth 20000 in
set_option maxHeartbeats 4000000 in
theorem s_N_clearSums {Ω : zO} {ad : Nat → Nat} {K : zS → Prop} {σ : zS}  (h : q_N_clearSums K σ) : zMv Ω y_N_clearSums (.code y_N_clearSums c_N_clearSums 1 none) rm_N_clearSums zLy ad [.ref (ad 28)] σ K := by
  refine z_ofv (lv := [(0, .ref (ad 28))]) (by decide) rfl (Nat.le_of_ble_eq_true rfl) ?_
  intro Γ Q cx rt
  unfold q_N_clearSums at h
  refine v_aload_n cx 0 d_N_clearSums_0 rfl rfl ?_
  refine gf_N_26 cx d_N_clearSums_1 ?_
  refine v_iconst cx d_N_clearSums_4 ?_
  refine v_callSv0 (st := []) cx (s_J_fill2 (o := 31) zl_31 (by decide) ⟨by decide, by decide⟩ h) yk_J_fill2 lk_N_83 rfl rfl (Nat.le_of_ble_eq_true rfl) ⟨Nat.le_of_ble_eq_true rfl, Nat.le_of_ble_eq_true rfl⟩ ⟨rfl, rfl⟩ ⟨Nat.le_of_ble_eq_true rfl, Nat.le_of_ble_eq_true rfl⟩ d_N_clearSums_5 (fun σ1 h => ?_)
  exact rt _ _ _ _ _ (Nat.le_of_ble_eq_true rfl) (Nat.le_of_ble_eq_true rfl) d_N_clearSums_8 h
def q_N_addCosts (goal : Int) (K : zS → Prop) (σ : zS) : Prop :=
  q_W_searchAll goal (fun σ1 =>
    ∃ (I10 : Int → zS → Prop) (μ10 : Int → zS → Nat), (I10 0 σ1) ∧ ∀ (y2 : Int) (σ3 : zS), I10 y2 σ3 → zR y2 → 
    q_L_places (fun r5 σ4 =>
      (r5 ≤ y2 →
        K σ4) ∧ (y2 < r5 →
        q_W_costBetween y2 goal (fun r8 σ7 =>
          (r8 = (-1) →
            (0 ≤ y2 ∧ y2 < 81) ∧ (∀ σ11 : zS, σ11 = zU σ7 31 y2 1000000000 → I10 (y2 + 1) σ11 ∧ zR (y2 + 1) ∧ μ10 (y2 + 1) σ11 < μ10 y2 σ3)) ∧ (r8 ≠ (-1) →
            (0 ≤ y2 ∧ y2 < 81) ∧ (((σ7 31 y2) ≠ 1000000000 →
                zR ((σ7 31 y2) + r8) ∧ (∀ σ19 : zS, σ19 = zU σ7 31 y2 ((σ7 31 y2) + r8) → I10 (y2 + 1) σ19 ∧ zR (y2 + 1) ∧ μ10 (y2 + 1) σ19 < μ10 y2 σ3)) ∧ ((σ7 31 y2) = 1000000000 →
                ∀ σ22 : zS, σ22 = zU σ7 31 y2 1000000000 → I10 (y2 + 1) σ22 ∧ zR (y2 + 1) ∧ μ10 (y2 + 1) σ22 < μ10 y2 σ3)))) σ4)) σ3) σ
abbrev rm_N_addCosts : Room := { frames := 5, cells := 0, slots := 0, locals := 122 }
set_option maxRecDepth 20000 in
set_option maxHeartbeats 4000000 in
theorem s_N_addCosts {Ω : zO} {ad : Nat → Nat} {goal : Int} {K : zS → Prop} {σ : zS} (hgoal : zR goal) (h : q_N_addCosts goal K σ) : zMv Ω y_N_addCosts (.code y_N_addCosts c_N_addCosts 4 none) rm_N_addCosts zLy ad [.ref (ad 28), .int (zI goal)] σ K := by
  refine z_ofv (lv := [(0, .ref (ad 28)), (1, .int (zI goal))]) (by decide) rfl (Nat.le_of_ble_eq_true rfl) ?_
  intro Γ Q cx rt
  unfold q_N_addCosts at h
  refine v_aload_n cx 0 d_N_addCosts_0 rfl rfl ?_
  refine gf_N_15 cx d_N_addCosts_1 ?_
  refine v_iload_n cx 1 d_N_addCosts_4 rfl rfl ?_
  refine v_callVv0 (st := []) cx (s_W_searchAll hgoal h) yk_W_searchAll lk_N_107 zl_15 rfl rfl rfl (Nat.le_of_ble_eq_true rfl) ⟨Nat.le_of_ble_eq_true rfl, Nat.le_of_ble_eq_true rfl⟩ ⟨rfl, rfl⟩ ⟨(Nat.le_of_ble_eq_true rfl), (Nat.le_of_ble_eq_true rfl)⟩ d_N_addCosts_5 (fun σ1 h => ?_)
  refine v_iconst cx d_N_addCosts_8 ?_
  refine v_istore_n (lv' := [(0, .ref (ad 28)), (1, .int (zI goal)), (2, .int (zI 0))]) cx d_N_addCosts_9 rfl (by decide) rfl rfl ?_
  obtain ⟨I10, μ10, h0, h⟩ := h
  have L10 : ∀ (N10 : Nat) (y2 : Int) (σ3 : zS), μ10 y2 σ3 < N10 → I10 y2 σ3 → zR y2 → zV Ω Γ rm_N_addCosts 4 Q 0 0 zLy ad σ3 10 [(0, .ref (ad 28)), (1, .int (zI goal)), (2, .int (zI y2))] [] := by
    intro N10
    induction N10 with
    | zero => intro y2 σ3 hm; exact absurd hm (Nat.not_lt_zero _)
    | succ N10 ih10 =>
      intro y2 σ3 hmm10 hI hy2
      replace h := h y2 σ3 hI hy2
      refine v_iload_n cx 2 d_N_addCosts_10 rfl rfl ?_
      refine v_aload_n cx 0 d_N_addCosts_11 rfl rfl ?_
      refine gf_N_9 cx d_N_addCosts_12 ?_
      refine v_callVi0 (st := [.int (zI y2)]) cx (s_L_places  h) yk_L_places lk_N_61 zl_3 rfl rfl rfl (Nat.le_of_ble_eq_true rfl) ⟨Nat.le_of_ble_eq_true rfl, Nat.le_of_ble_eq_true rfl⟩ ⟨rfl, rfl⟩ ⟨(Nat.le_of_ble_eq_true rfl), (Nat.le_of_ble_eq_true rfl)⟩ d_N_addCosts_15 (fun r5 σ4 hr5 h => ?_)
      refine v_icmp_ge cx 72 d_N_addCosts_18 (by decide) hy2 hr5 (fun c6 => ?_) (fun c6 => ?_)
      · replace h := h.1 c6
        exact rt _ _ _ _ _ (Nat.le_of_ble_eq_true rfl) (Nat.le_of_ble_eq_true rfl) d_N_addCosts_72 h
      · replace h := h.2 c6
        refine v_aload_n cx 0 d_N_addCosts_21 rfl rfl ?_
        refine gf_N_15 cx d_N_addCosts_22 ?_
        refine v_iload_n cx 2 d_N_addCosts_25 rfl rfl ?_
        refine v_iload_n cx 1 d_N_addCosts_26 rfl rfl ?_
        refine v_callVi0 (st := []) cx (s_W_costBetween hy2 hgoal h) yk_W_costBetween lk_N_111 zl_15 rfl rfl rfl (Nat.le_of_ble_eq_true rfl) ⟨Nat.le_of_ble_eq_true rfl, Nat.le_of_ble_eq_true rfl⟩ ⟨rfl, rfl⟩ ⟨(Nat.le_of_ble_eq_true rfl), (Nat.le_of_ble_eq_true rfl)⟩ d_N_addCosts_27 (fun r8 σ7 hr8 h => ?_)
        refine v_istore_n (lv' := [(0, .ref (ad 28)), (1, .int (zI goal)), (2, .int (zI y2)), (3, .int (zI r8))]) cx d_N_addCosts_30 rfl (by decide) rfl rfl ?_
        refine v_aload_n cx 0 d_N_addCosts_31 rfl rfl ?_
        refine gf_N_26 cx d_N_addCosts_32 ?_
        refine v_iload_n cx 2 d_N_addCosts_35 rfl rfl ?_
        refine v_iload_n cx 3 d_N_addCosts_36 rfl rfl ?_
        refine v_iconst cx d_N_addCosts_37 ?_
        refine v_icmp_eq cx 52 d_N_addCosts_38 (by decide) hr8 ⟨by decide, by decide⟩ (fun c9 => ?_) (fun c9 => ?_)
        · replace h := h.1 c9
          refine v_ldc cx ct_N_114 d_N_addCosts_52 ?_
          refine v_goto cx 65 d_N_addCosts_54 (by decide) ?_
          obtain ⟨hb10, h⟩ := h
          refine v_iast cx zl_31 (by decide) hb10.1 hb10.2 ⟨by decide, by decide⟩ d_N_addCosts_65 ?_
          refine v_ns (fun σ11 eσ11 => ?_)
          replace h := h σ11 eσ11
          refine v_iinc (lv' := [(0, .ref (ad 28)), (1, .int (zI goal)), (2, .int (zI (y2 + 1))), (3, .int (zI r8))]) cx 2 d_N_addCosts_66 rfl (by decide) rfl rfl ?_
          refine v_goto cx 10 d_N_addCosts_69 (by decide) ?_
          refine v_sb (lv' := [(0, .ref (ad 28)), (1, .int (zI goal)), (2, .int (zI (y2 + 1)))]) [0, 1, 2] rfl ?_
          obtain ⟨hI2, hz13, hm2⟩ := h
          exact ih10 _ _ (Nat.lt_of_lt_of_le hm2 (Nat.le_of_lt_succ hmm10)) hI2 hz13
        · replace h := h.2 c9
          refine v_aload_n cx 0 d_N_addCosts_41 rfl rfl ?_
          refine gf_N_26 cx d_N_addCosts_42 ?_
          refine v_iload_n cx 2 d_N_addCosts_45 rfl rfl ?_
          obtain ⟨hb14, h⟩ := h
          refine v_iald cx zl_31 (by decide) hb14.1 hb14.2 d_N_addCosts_46 (fun hl15 => ?_)
          refine v_ldc cx ct_N_114 d_N_addCosts_47 ?_
          refine v_icmp_ne cx 57 d_N_addCosts_49 (by decide) hl15 ⟨by decide, by decide⟩ (fun c16 => ?_) (fun c16 => ?_)
          · replace h := h.1 c16
            refine v_aload_n cx 0 d_N_addCosts_57 rfl rfl ?_
            refine gf_N_26 cx d_N_addCosts_58 ?_
            refine v_iload_n cx 2 d_N_addCosts_61 rfl rfl ?_
            refine v_iald cx zl_31 (by decide) hb14.1 hb14.2 d_N_addCosts_62 (fun hl17 => ?_)
            refine v_iload_n cx 3 d_N_addCosts_63 rfl rfl ?_
            refine v_iadd cx d_N_addCosts_64 ?_
            obtain ⟨hr18, h⟩ := h
            refine v_iast cx zl_31 (by decide) hb14.1 hb14.2 hr18 d_N_addCosts_65 ?_
            refine v_ns (fun σ19 eσ19 => ?_)
            replace h := h σ19 eσ19
            refine v_iinc (lv' := [(0, .ref (ad 28)), (1, .int (zI goal)), (2, .int (zI (y2 + 1))), (3, .int (zI r8))]) cx 2 d_N_addCosts_66 rfl (by decide) rfl rfl ?_
            refine v_goto cx 10 d_N_addCosts_69 (by decide) ?_
            refine v_sb (lv' := [(0, .ref (ad 28)), (1, .int (zI goal)), (2, .int (zI (y2 + 1)))]) [0, 1, 2] rfl ?_
            obtain ⟨hI2, hz21, hm2⟩ := h
            exact ih10 _ _ (Nat.lt_of_lt_of_le hm2 (Nat.le_of_lt_succ hmm10)) hI2 hz21
          · replace h := h.2 c16
            refine v_ldc cx ct_N_114 d_N_addCosts_52 ?_
            refine v_goto cx 65 d_N_addCosts_54 (by decide) ?_
            refine v_iast cx zl_31 (by decide) hb14.1 hb14.2 ⟨by decide, by decide⟩ d_N_addCosts_65 ?_
            refine v_ns (fun σ22 eσ22 => ?_)
            replace h := h σ22 eσ22
            refine v_iinc (lv' := [(0, .ref (ad 28)), (1, .int (zI goal)), (2, .int (zI (y2 + 1))), (3, .int (zI r8))]) cx 2 d_N_addCosts_66 rfl (by decide) rfl rfl ?_
            refine v_goto cx 10 d_N_addCosts_69 (by decide) ?_
            refine v_sb (lv' := [(0, .ref (ad 28)), (1, .int (zI goal)), (2, .int (zI (y2 + 1)))]) [0, 1, 2] rfl ?_
            obtain ⟨hI2, hz24, hm2⟩ := h
            exact ih10 _ _ (Nat.lt_of_lt_of_le hm2 (Nat.le_of_lt_succ hmm10)) hI2 hz24
  exact L10 _ _ _ (Nat.lt_succ_self _) h0 ⟨by decide, by decide⟩
def q_N_leastSumPlace (K : Int → zS → Prop) (σ : zS) : Prop :=
  ∃ (I4 : Int → Int → zS → Prop) (μ4 : Int → Int → zS → Nat), (I4 (-1) 0 σ) ∧ ∀ (y1 y2 : Int) (σ3 : zS), I4 y1 y2 σ3 → zR y1 → zR y2 → 
  q_L_places (fun r5 σ4 =>
    (r5 ≤ y2 →
      K y1 σ4) ∧ (y2 < r5 →
      (0 ≤ y2 ∧ y2 < 81) ∧ ((1000000000 ≤ (σ4 31 y2) →
          I4 y1 (y2 + 1) σ4 ∧ zR (y2 + 1) ∧ μ4 y1 (y2 + 1) σ4 < μ4 y1 y2 σ3) ∧ ((σ4 31 y2) < 1000000000 →
          (y1 = (-1) →
            I4 y2 (y2 + 1) σ4 ∧ zR (y2 + 1) ∧ μ4 y2 (y2 + 1) σ4 < μ4 y1 y2 σ3) ∧ (y1 ≠ (-1) →
            (0 ≤ y1 ∧ y1 < 81) ∧ (((σ4 31 y1) ≤ (σ4 31 y2) →
                I4 y1 (y2 + 1) σ4 ∧ zR (y2 + 1) ∧ μ4 y1 (y2 + 1) σ4 < μ4 y1 y2 σ3) ∧ ((σ4 31 y2) < (σ4 31 y1) →
                I4 y2 (y2 + 1) σ4 ∧ zR (y2 + 1) ∧ μ4 y2 (y2 + 1) σ4 < μ4 y1 y2 σ3))))))) σ3
abbrev rm_N_leastSumPlace : Room := { frames := 1, cells := 0, slots := 0, locals := 20 }
set_option maxRecDepth 20000 in
set_option maxHeartbeats 4000000 in
theorem s_N_leastSumPlace {Ω : zO} {ad : Nat → Nat} {K : Int → zS → Prop} {σ : zS}  (h : q_N_leastSumPlace K σ) : zMi Ω y_N_leastSumPlace (.code y_N_leastSumPlace c_N_leastSumPlace 3 (some .int)) rm_N_leastSumPlace zLy ad [.ref (ad 28)] σ K := by
  refine z_ofi (lv := [(0, .ref (ad 28))]) (by decide) rfl (Nat.le_of_ble_eq_true rfl) ?_
  intro Γ Q cx rt
  unfold q_N_leastSumPlace at h
  refine v_iconst cx d_N_leastSumPlace_0 ?_
  refine v_istore_n (lv' := [(0, .ref (ad 28)), (1, .int (zI (-1)))]) cx d_N_leastSumPlace_1 rfl (by decide) rfl rfl ?_
  refine v_iconst cx d_N_leastSumPlace_2 ?_
  refine v_istore_n (lv' := [(0, .ref (ad 28)), (1, .int (zI (-1))), (2, .int (zI 0))]) cx d_N_leastSumPlace_3 rfl (by decide) rfl rfl ?_
  obtain ⟨I4, μ4, h0, h⟩ := h
  have L4 : ∀ (N4 : Nat) (y1 y2 : Int) (σ3 : zS), μ4 y1 y2 σ3 < N4 → I4 y1 y2 σ3 → zR y1 → zR y2 → zV Ω Γ rm_N_leastSumPlace 3 Q 0 0 zLy ad σ3 4 [(0, .ref (ad 28)), (1, .int (zI y1)), (2, .int (zI y2))] [] := by
    intro N4
    induction N4 with
    | zero => intro y1 y2 σ3 hm; exact absurd hm (Nat.not_lt_zero _)
    | succ N4 ih4 =>
      intro y1 y2 σ3 hmm4 hI hy1 hy2
      replace h := h y1 y2 σ3 hI hy1 hy2
      refine v_iload_n cx 2 d_N_leastSumPlace_4 rfl rfl ?_
      refine v_aload_n cx 0 d_N_leastSumPlace_5 rfl rfl ?_
      refine gf_N_9 cx d_N_leastSumPlace_6 ?_
      refine v_callVi0 (st := [.int (zI y2)]) cx (s_L_places  h) yk_L_places lk_N_61 zl_3 rfl rfl rfl (Nat.le_of_ble_eq_true rfl) ⟨Nat.le_of_ble_eq_true rfl, Nat.le_of_ble_eq_true rfl⟩ ⟨rfl, rfl⟩ ⟨(Nat.le_of_ble_eq_true rfl), (Nat.le_of_ble_eq_true rfl)⟩ d_N_leastSumPlace_9 (fun r5 σ4 hr5 h => ?_)
      refine v_icmp_ge cx 54 d_N_leastSumPlace_12 (by decide) hy2 hr5 (fun c6 => ?_) (fun c6 => ?_)
      · replace h := h.1 c6
        refine v_iload_n cx 1 d_N_leastSumPlace_54 rfl rfl ?_
        exact rt _ _ _ _ _ _ (Nat.le_of_ble_eq_true rfl) (Nat.le_of_ble_eq_true rfl) d_N_leastSumPlace_55 hy1 h
      · replace h := h.2 c6
        refine v_aload_n cx 0 d_N_leastSumPlace_15 rfl rfl ?_
        refine gf_N_26 cx d_N_leastSumPlace_16 ?_
        refine v_iload_n cx 2 d_N_leastSumPlace_19 rfl rfl ?_
        obtain ⟨hb7, h⟩ := h
        refine v_iald cx zl_31 (by decide) hb7.1 hb7.2 d_N_leastSumPlace_20 (fun hl8 => ?_)
        refine v_ldc cx ct_N_114 d_N_leastSumPlace_21 ?_
        refine v_icmp_ge cx 48 d_N_leastSumPlace_23 (by decide) hl8 ⟨by decide, by decide⟩ (fun c9 => ?_) (fun c9 => ?_)
        · replace h := h.1 c9
          refine v_iinc (lv' := [(0, .ref (ad 28)), (1, .int (zI y1)), (2, .int (zI (y2 + 1)))]) cx 2 d_N_leastSumPlace_48 rfl (by decide) rfl rfl ?_
          refine v_goto cx 4 d_N_leastSumPlace_51 (by decide) ?_
          obtain ⟨hI2, hz11, hm2⟩ := h
          exact ih4 _ _ _ (Nat.lt_of_lt_of_le hm2 (Nat.le_of_lt_succ hmm4)) hI2 hy1 hz11
        · replace h := h.2 c9
          refine v_iload_n cx 1 d_N_leastSumPlace_26 rfl rfl ?_
          refine v_iconst cx d_N_leastSumPlace_27 ?_
          refine v_icmp_eq cx 46 d_N_leastSumPlace_28 (by decide) hy1 ⟨by decide, by decide⟩ (fun c12 => ?_) (fun c12 => ?_)
          · replace h := h.1 c12
            refine v_iload_n cx 2 d_N_leastSumPlace_46 rfl rfl ?_
            refine v_istore_n (lv' := [(0, .ref (ad 28)), (1, .int (zI y2)), (2, .int (zI y2))]) cx d_N_leastSumPlace_47 rfl (by decide) rfl rfl ?_
            refine v_iinc (lv' := [(0, .ref (ad 28)), (1, .int (zI y2)), (2, .int (zI (y2 + 1)))]) cx 2 d_N_leastSumPlace_48 rfl (by decide) rfl rfl ?_
            refine v_goto cx 4 d_N_leastSumPlace_51 (by decide) ?_
            obtain ⟨hI2, hz14, hm2⟩ := h
            exact ih4 _ _ _ (Nat.lt_of_lt_of_le hm2 (Nat.le_of_lt_succ hmm4)) hI2 hy2 hz14
          · replace h := h.2 c12
            refine v_aload_n cx 0 d_N_leastSumPlace_31 rfl rfl ?_
            refine gf_N_26 cx d_N_leastSumPlace_32 ?_
            refine v_iload_n cx 2 d_N_leastSumPlace_35 rfl rfl ?_
            refine v_iald cx zl_31 (by decide) hb7.1 hb7.2 d_N_leastSumPlace_36 (fun hl15 => ?_)
            refine v_aload_n cx 0 d_N_leastSumPlace_37 rfl rfl ?_
            refine gf_N_26 cx d_N_leastSumPlace_38 ?_
            refine v_iload_n cx 1 d_N_leastSumPlace_41 rfl rfl ?_
            obtain ⟨hb16, h⟩ := h
            refine v_iald cx zl_31 (by decide) hb16.1 hb16.2 d_N_leastSumPlace_42 (fun hl17 => ?_)
            refine v_icmp_ge cx 48 d_N_leastSumPlace_43 (by decide) hl15 hl17 (fun c18 => ?_) (fun c18 => ?_)
            · replace h := h.1 c18
              refine v_iinc (lv' := [(0, .ref (ad 28)), (1, .int (zI y1)), (2, .int (zI (y2 + 1)))]) cx 2 d_N_leastSumPlace_48 rfl (by decide) rfl rfl ?_
              refine v_goto cx 4 d_N_leastSumPlace_51 (by decide) ?_
              obtain ⟨hI2, hz20, hm2⟩ := h
              exact ih4 _ _ _ (Nat.lt_of_lt_of_le hm2 (Nat.le_of_lt_succ hmm4)) hI2 hy1 hz20
            · replace h := h.2 c18
              refine v_iload_n cx 2 d_N_leastSumPlace_46 rfl rfl ?_
              refine v_istore_n (lv' := [(0, .ref (ad 28)), (1, .int (zI y2)), (2, .int (zI y2))]) cx d_N_leastSumPlace_47 rfl (by decide) rfl rfl ?_
              refine v_iinc (lv' := [(0, .ref (ad 28)), (1, .int (zI y2)), (2, .int (zI (y2 + 1)))]) cx 2 d_N_leastSumPlace_48 rfl (by decide) rfl rfl ?_
              refine v_goto cx 4 d_N_leastSumPlace_51 (by decide) ?_
              obtain ⟨hI2, hz22, hm2⟩ := h
              exact ih4 _ _ _ (Nat.lt_of_lt_of_le hm2 (Nat.le_of_lt_succ hmm4)) hI2 hy2 hz22
  exact L4 _ _ _ _ (Nat.lt_succ_self _) h0 ⟨by decide, by decide⟩ ⟨by decide, by decide⟩
def q_N_sumAt (where_ : Int) (K : Int → zS → Prop) (σ : zS) : Prop :=
  (0 ≤ where_ ∧ where_ < 81) ∧ (K (σ 31 where_) σ)
abbrev rm_N_sumAt : Room := { frames := 0, cells := 0, slots := 0, locals := 0 }
set_option maxRecDepth 20000 in
set_option maxHeartbeats 4000000 in
theorem s_N_sumAt {Ω : zO} {ad : Nat → Nat} {where_ : Int} {K : Int → zS → Prop} {σ : zS} (hwhere_ : zR where_) (h : q_N_sumAt where_ K σ) : zMi Ω y_N_sumAt (.code y_N_sumAt c_N_sumAt 2 (some .int)) rm_N_sumAt zLy ad [.ref (ad 28), .int (zI where_)] σ K := by
  refine z_ofi (lv := [(0, .ref (ad 28)), (1, .int (zI where_))]) (by decide) rfl (Nat.le_of_ble_eq_true rfl) ?_
  intro Γ Q cx rt
  unfold q_N_sumAt at h
  refine v_aload_n cx 0 d_N_sumAt_0 rfl rfl ?_
  refine gf_N_26 cx d_N_sumAt_1 ?_
  refine v_iload_n cx 1 d_N_sumAt_4 rfl rfl ?_
  obtain ⟨hb1, h⟩ := h
  refine v_iald cx zl_31 (by decide) hb1.1 hb1.2 d_N_sumAt_5 (fun hl2 => ?_)
  exact rt _ _ _ _ _ _ (Nat.le_of_ble_eq_true rfl) (Nat.le_of_ble_eq_true rfl) d_N_sumAt_6 hl2 h
def q_N_takeRound (size : Int) (K : Int → zS → Prop) (σ : zS) : Prop :=
  (size < 2 →
    K 0 σ) ∧ (2 ≤ size →
    (size ≤ 6 →
      ∃ (I15 : Int → zS → Prop) (μ15 : Int → zS → Nat), (I15 0 σ) ∧ ∀ (y3 : Int) (σ4 : zS), I15 y3 σ4 → zR y3 → 
      (size ≤ y3 →
        ∀ σ6 : zS, σ6 = zU σ4 28 8 size → K 1 σ6) ∧ (y3 < size →
        q_T_byteAt y3 (fun r8 σ7 =>
          (0 ≤ y3 ∧ y3 < 6) ∧ (∀ σ10 : zS, σ10 = zU σ7 32 y3 r8 → q_L_places (fun r13 σ12 =>
              ((σ10 32 y3) < r13 →
                ∃ (I52 : Int → Prop) (μ52 : Int → Nat), (I52 0) ∧ ∀ (y15 : Int), I52 y15 → zR y15 → 
                (y3 ≤ y15 →
                  I15 (y3 + 1) σ12 ∧ zR (y3 + 1) ∧ μ15 (y3 + 1) σ12 < μ15 y3 σ4) ∧ (y15 < y3 →
                  (0 ≤ y15 ∧ y15 < 6) ∧ (((σ12 32 y15) ≠ (σ12 32 y3) →
                      I52 (y15 + 1) ∧ zR (y15 + 1) ∧ μ52 (y15 + 1) < μ52 y15) ∧ ((σ12 32 y15) = (σ12 32 y3) →
                      K 0 σ12)))) ∧ (r13 ≤ (σ10 32 y3) →
                K 0 σ12)) σ10)) σ4)) ∧ (6 < size →
      K 0 σ))
abbrev rm_N_takeRound : Room := { frames := 1, cells := 0, slots := 0, locals := 21 }
set_option maxRecDepth 20000 in
set_option maxHeartbeats 4000000 in
theorem s_N_takeRound {Ω : zO} {ad : Nat → Nat} {size : Int} {K : Int → zS → Prop} {σ : zS} (hsize : zR size) (h : q_N_takeRound size K σ) : zMz Ω y_N_takeRound (.code y_N_takeRound c_N_takeRound 5 (some .boolean)) rm_N_takeRound zLy ad [.ref (ad 28), .ref (ad 1), .int (zI size)] σ K := by
  refine z_ofz (lv := [(0, .ref (ad 28)), (1, .ref (ad 1)), (2, .int (zI size))]) (by decide) rfl (Nat.le_of_ble_eq_true rfl) ?_
  intro Γ Q cx rt
  unfold q_N_takeRound at h
  refine v_iload_n cx 2 d_N_takeRound_0 rfl rfl ?_
  refine v_iconst cx d_N_takeRound_1 ?_
  refine v_icmp_lt cx 11 d_N_takeRound_2 (by decide) hsize ⟨by decide, by decide⟩ (fun c1 => ?_) (fun c1 => ?_)
  · replace h := h.1 c1
    refine v_iconst cx d_N_takeRound_11 ?_
    exact rt _ _ _ _ _ _ (Nat.le_of_ble_eq_true rfl) (Nat.le_of_ble_eq_true rfl) d_N_takeRound_12 (Or.inl rfl) h
  · replace h := h.2 c1
    refine v_iload_n cx 2 d_N_takeRound_5 rfl rfl ?_
    refine v_bipush cx (by decide) d_N_takeRound_6 ?_
    refine v_icmp_le cx 13 d_N_takeRound_8 (by decide) hsize ⟨by decide, by decide⟩ (fun c2 => ?_) (fun c2 => ?_)
    · replace h := h.1 c2
      refine v_iconst cx d_N_takeRound_13 ?_
      refine v_istore_n (lv' := [(0, .ref (ad 28)), (1, .ref (ad 1)), (2, .int (zI size)), (3, .int (zI 0))]) cx d_N_takeRound_14 rfl (by decide) rfl rfl ?_
      obtain ⟨I15, μ15, h0, h⟩ := h
      have L15 : ∀ (N15 : Nat) (y3 : Int) (σ4 : zS), μ15 y3 σ4 < N15 → I15 y3 σ4 → zR y3 → zV Ω Γ rm_N_takeRound 5 Q 0 0 zLy ad σ4 15 [(0, .ref (ad 28)), (1, .ref (ad 1)), (2, .int (zI size)), (3, .int (zI y3))] [] := by
        intro N15
        induction N15 with
        | zero => intro y3 σ4 hm; exact absurd hm (Nat.not_lt_zero _)
        | succ N15 ih15 =>
          intro y3 σ4 hmm15 hI hy3
          replace h := h y3 σ4 hI hy3
          refine v_iload_n cx 3 d_N_takeRound_15 rfl rfl ?_
          refine v_iload_n cx 2 d_N_takeRound_16 rfl rfl ?_
          refine v_icmp_ge cx 88 d_N_takeRound_17 (by decide) hy3 hsize (fun c5 => ?_) (fun c5 => ?_)
          · replace h := h.1 c5
            refine v_aload_n cx 0 d_N_takeRound_88 rfl rfl ?_
            refine v_iload_n cx 2 d_N_takeRound_89 rfl rfl ?_
            refine pf_N_38 cx hsize d_N_takeRound_90 ?_
            refine v_ns (fun σ6 eσ6 => ?_)
            replace h := h σ6 eσ6
            refine v_iconst cx d_N_takeRound_93 ?_
            exact rt _ _ _ _ _ _ (Nat.le_of_ble_eq_true rfl) (Nat.le_of_ble_eq_true rfl) d_N_takeRound_94 (Or.inr rfl) h
          · replace h := h.2 c5
            refine v_aload_n cx 0 d_N_takeRound_20 rfl rfl ?_
            refine gf_N_29 cx d_N_takeRound_21 ?_
            refine v_iload_n cx 3 d_N_takeRound_24 rfl rfl ?_
            refine v_aload_n cx 1 d_N_takeRound_25 rfl rfl ?_
            refine v_iload_n cx 3 d_N_takeRound_26 rfl rfl ?_
            refine v_callVi0 (st := [.int (zI y3), .ref (ad 32)]) cx (s_T_byteAt hy3 h) yk_T_byteAt lk_N_115 zl_1 rfl rfl rfl (Nat.le_of_ble_eq_true rfl) ⟨Nat.le_of_ble_eq_true rfl, Nat.le_of_ble_eq_true rfl⟩ ⟨rfl, rfl⟩ ⟨(Nat.le_of_ble_eq_true rfl), (Nat.le_of_ble_eq_true rfl)⟩ d_N_takeRound_27 (fun r8 σ7 hr8 h => ?_)
            obtain ⟨hb9, h⟩ := h
            refine v_iast cx zl_32 (by decide) hb9.1 hb9.2 hr8 d_N_takeRound_30 ?_
            refine v_ns (fun σ10 eσ10 => ?_)
            replace h := h σ10 eσ10
            refine v_aload_n cx 0 d_N_takeRound_31 rfl rfl ?_
            refine gf_N_29 cx d_N_takeRound_32 ?_
            refine v_iload_n cx 3 d_N_takeRound_35 rfl rfl ?_
            refine v_iald cx zl_32 (by decide) hb9.1 hb9.2 d_N_takeRound_36 (fun hl11 => ?_)
            refine v_aload_n cx 0 d_N_takeRound_37 rfl rfl ?_
            refine gf_N_9 cx d_N_takeRound_38 ?_
            refine v_callVi0 (st := [.int (zI (σ10 32 y3))]) cx (s_L_places  h) yk_L_places lk_N_61 zl_3 rfl rfl rfl (Nat.le_of_ble_eq_true rfl) ⟨Nat.le_of_ble_eq_true rfl, Nat.le_of_ble_eq_true rfl⟩ ⟨rfl, rfl⟩ ⟨(Nat.le_of_ble_eq_true rfl), (Nat.le_of_ble_eq_true rfl)⟩ d_N_takeRound_41 (fun r13 σ12 hr13 h => ?_)
            refine v_icmp_lt cx 49 d_N_takeRound_44 (by decide) hl11 hr13 (fun c14 => ?_) (fun c14 => ?_)
            · replace h := h.1 c14
              refine v_iconst cx d_N_takeRound_49 ?_
              refine v_istore (lv' := [(0, .ref (ad 28)), (1, .ref (ad 1)), (2, .int (zI size)), (3, .int (zI y3)), (4, .int (zI 0))]) cx d_N_takeRound_50 (by decide) rfl rfl ?_
              obtain ⟨I52, μ52, h0, h⟩ := h
              have L52 : ∀ (N52 : Nat) (y15 : Int), μ52 y15 < N52 → I52 y15 → zR y15 → zV Ω Γ rm_N_takeRound 5 Q 0 0 zLy ad σ12 52 [(0, .ref (ad 28)), (1, .ref (ad 1)), (2, .int (zI size)), (3, .int (zI y3)), (4, .int (zI y15))] [] := by
                intro N52
                induction N52 with
                | zero => intro y15 hm; exact absurd hm (Nat.not_lt_zero _)
                | succ N52 ih52 =>
                  intro y15 hmm52 hI hy15
                  replace h := h y15 hI hy15
                  refine v_iload cx 4 d_N_takeRound_52 rfl ?_
                  refine v_iload_n cx 3 d_N_takeRound_54 rfl rfl ?_
                  refine v_icmp_ge cx 82 d_N_takeRound_55 (by decide) hy15 hy3 (fun c16 => ?_) (fun c16 => ?_)
                  · replace h := h.1 c16
                    refine v_iinc (lv' := [(0, .ref (ad 28)), (1, .ref (ad 1)), (2, .int (zI size)), (3, .int (zI (y3 + 1))), (4, .int (zI y15))]) cx 3 d_N_takeRound_82 rfl (by decide) rfl rfl ?_
                    refine v_goto cx 15 d_N_takeRound_85 (by decide) ?_
                    refine v_sb (lv' := [(0, .ref (ad 28)), (1, .ref (ad 1)), (2, .int (zI size)), (3, .int (zI (y3 + 1)))]) [0, 1, 2, 3] rfl ?_
                    obtain ⟨hI2, hz18, hm2⟩ := h
                    exact ih15 _ _ (Nat.lt_of_lt_of_le hm2 (Nat.le_of_lt_succ hmm15)) hI2 hz18
                  · replace h := h.2 c16
                    refine v_aload_n cx 0 d_N_takeRound_58 rfl rfl ?_
                    refine gf_N_29 cx d_N_takeRound_59 ?_
                    refine v_iload cx 4 d_N_takeRound_62 rfl ?_
                    obtain ⟨hb19, h⟩ := h
                    refine v_iald cx zl_32 (by decide) hb19.1 hb19.2 d_N_takeRound_64 (fun hl20 => ?_)
                    refine v_aload_n cx 0 d_N_takeRound_65 rfl rfl ?_
                    refine gf_N_29 cx d_N_takeRound_66 ?_
                    refine v_iload_n cx 3 d_N_takeRound_69 rfl rfl ?_
                    refine v_iald cx zl_32 (by decide) hb9.1 hb9.2 d_N_takeRound_70 (fun hl21 => ?_)
                    refine v_icmp_ne cx 76 d_N_takeRound_71 (by decide) hl20 hl21 (fun c22 => ?_) (fun c22 => ?_)
                    · replace h := h.1 c22
                      refine v_iinc (lv' := [(0, .ref (ad 28)), (1, .ref (ad 1)), (2, .int (zI size)), (3, .int (zI y3)), (4, .int (zI (y15 + 1)))]) cx 4 d_N_takeRound_76 rfl (by decide) rfl rfl ?_
                      refine v_goto cx 52 d_N_takeRound_79 (by decide) ?_
                      obtain ⟨hI2, hz24, hm2⟩ := h
                      exact ih52 _ (Nat.lt_of_lt_of_le hm2 (Nat.le_of_lt_succ hmm52)) hI2 hz24
                    · replace h := h.2 c22
                      refine v_iconst cx d_N_takeRound_74 ?_
                      exact rt _ _ _ _ _ _ (Nat.le_of_ble_eq_true rfl) (Nat.le_of_ble_eq_true rfl) d_N_takeRound_75 (Or.inl rfl) h
              exact L52 _ _ (Nat.lt_succ_self _) h0 ⟨by decide, by decide⟩
            · replace h := h.2 c14
              refine v_iconst cx d_N_takeRound_47 ?_
              exact rt _ _ _ _ _ _ (Nat.le_of_ble_eq_true rfl) (Nat.le_of_ble_eq_true rfl) d_N_takeRound_48 (Or.inl rfl) h
      exact L15 _ _ _ (Nat.lt_succ_self _) h0 ⟨by decide, by decide⟩
    · replace h := h.2 c2
      refine v_iconst cx d_N_takeRound_11 ?_
      exact rt _ _ _ _ _ _ (Nat.le_of_ble_eq_true rfl) (Nat.le_of_ble_eq_true rfl) d_N_takeRound_12 (Or.inl rfl) h
def q_N_extend (set_ : Int) (last : Int) (K : zS → Prop) (σ : zS) : Prop :=
  (0 ≤ (set_ * 6) + last ∧ (set_ * 6) + last < 192) ∧ (∀ x3 : Int, x3 = σ 34 ((set_ * 6) + last) → ∃ (I15 : Int → zS → Prop) (μ15 : Int → zS → Nat), (I15 1 σ) ∧ ∀ (y4 : Int) (σ5 : zS), I15 y4 σ5 → zR y4 → 
    ((σ5 28 8) ≤ y4 →
      K σ5) ∧ (y4 < (σ5 28 8) →
      ∀ x8 : Int, x8 = zShl 1 (y4 - 1) → (0 ≤ (last * 6) + y4 ∧ (last * 6) + y4 < 36) ∧ (∀ x11 : Int, x11 = σ5 33 ((last * 6) + y4) → (1000000000 ≤ x3 →
          I15 (y4 + 1) σ5 ∧ zR (y4 + 1) ∧ μ15 (y4 + 1) σ5 < μ15 y4 σ5) ∧ (x3 < 1000000000 →
          (1000000000 ≤ x11 →
            I15 (y4 + 1) σ5 ∧ zR (y4 + 1) ∧ μ15 (y4 + 1) σ5 < μ15 y4 σ5) ∧ (x11 < 1000000000 →
            ((zAnd set_ x8) ≠ 0 →
              I15 (y4 + 1) σ5 ∧ zR (y4 + 1) ∧ μ15 (y4 + 1) σ5 < μ15 y4 σ5) ∧ ((zAnd set_ x8) = 0 →
              ∀ x21 : Int, x21 = ((zOr set_ x8) * 6) + y4 → (0 ≤ x21 ∧ x21 < 192) ∧ (zR (x3 + x11) ∧ (∀ σ26 : zS, σ26 = zU σ5 34 x21 (min (σ5 34 x21) (x3 + x11)) → I15 (y4 + 1) σ26 ∧ zR (y4 + 1) ∧ μ15 (y4 + 1) σ26 < μ15 y4 σ5))))))))
abbrev rm_N_extend : Room := { frames := 1, cells := 0, slots := 0, locals := 21 }
set_option maxRecDepth 20000 in
set_option maxHeartbeats 4000000 in
theorem s_N_extend {Ω : zO} {ad : Nat → Nat} {set_ : Int} {last : Int} {K : zS → Prop} {σ : zS} (hset_ : zR set_) (hlast : zR last) (h : q_N_extend set_ last K σ) : zMv Ω y_N_extend (.code y_N_extend c_N_extend 8 none) rm_N_extend zLy ad [.ref (ad 28), .int (zI set_), .int (zI last)] σ K := by
  refine z_ofv (lv := [(0, .ref (ad 28)), (1, .int (zI set_)), (2, .int (zI last))]) (by decide) rfl (Nat.le_of_ble_eq_true rfl) ?_
  intro Γ Q cx rt
  unfold q_N_extend at h
  refine v_aload_n cx 0 d_N_extend_0 rfl rfl ?_
  refine gf_N_35 cx d_N_extend_1 ?_
  refine v_iload_n cx 1 d_N_extend_4 rfl rfl ?_
  refine v_bipush cx (by decide) d_N_extend_5 ?_
  refine v_imul cx d_N_extend_7 ?_
  refine v_iload_n cx 2 d_N_extend_8 rfl rfl ?_
  refine v_iadd cx d_N_extend_9 ?_
  obtain ⟨hb1, h⟩ := h
  refine v_iald cx zl_34 (by decide) hb1.1 hb1.2 d_N_extend_10 (fun hl2 => ?_)
  refine v_nm (fun x3 ex3 => ?_)
  replace h := h x3 ex3
  have hx3 : zR x3 := by rw [ex3]; exact hl2
  refine v_istore_n (lv' := [(0, .ref (ad 28)), (1, .int (zI set_)), (2, .int (zI last)), (3, .int (zI x3))]) cx d_N_extend_11 rfl (by decide) rfl rfl ?_
  refine v_iconst cx d_N_extend_12 ?_
  refine v_istore (lv' := [(0, .ref (ad 28)), (1, .int (zI set_)), (2, .int (zI last)), (3, .int (zI x3)), (4, .int (zI 1))]) cx d_N_extend_13 (by decide) rfl rfl ?_
  obtain ⟨I15, μ15, h0, h⟩ := h
  have L15 : ∀ (N15 : Nat) (y4 : Int) (σ5 : zS), μ15 y4 σ5 < N15 → I15 y4 σ5 → zR y4 → zV Ω Γ rm_N_extend 8 Q 0 0 zLy ad σ5 15 [(0, .ref (ad 28)), (1, .int (zI set_)), (2, .int (zI last)), (3, .int (zI x3)), (4, .int (zI y4))] [] := by
    intro N15
    induction N15 with
    | zero => intro y4 σ5 hm; exact absurd hm (Nat.not_lt_zero _)
    | succ N15 ih15 =>
      intro y4 σ5 hmm15 hI hy4
      replace h := h y4 σ5 hI hy4
      refine v_iload cx 4 d_N_extend_15 rfl ?_
      refine v_aload_n cx 0 d_N_extend_17 rfl rfl ?_
      refine gf_N_38 cx d_N_extend_18 (fun hl6 => ?_)
      refine v_icmp_ge cx 105 d_N_extend_21 (by decide) hy4 hl6 (fun c7 => ?_) (fun c7 => ?_)
      · replace h := h.1 c7
        exact rt _ _ _ _ _ (Nat.le_of_ble_eq_true rfl) (Nat.le_of_ble_eq_true rfl) d_N_extend_105 h
      · replace h := h.2 c7
        refine v_iconst cx d_N_extend_24 ?_
        refine v_iload cx 4 d_N_extend_25 rfl ?_
        refine v_iconst cx d_N_extend_27 ?_
        refine v_isub cx d_N_extend_28 ?_
        refine v_ishl cx d_N_extend_29 ?_
        refine v_nm (fun x8 ex8 => ?_)
        replace h := h x8 ex8
        have hx8 : zR x8 := by rw [ex8]; exact (zR_shl _ _)
        refine v_istore (lv' := [(0, .ref (ad 28)), (1, .int (zI set_)), (2, .int (zI last)), (3, .int (zI x3)), (4, .int (zI y4)), (5, .int (zI x8))]) cx d_N_extend_30 (by decide) rfl rfl ?_
        refine v_aload_n cx 0 d_N_extend_32 rfl rfl ?_
        refine gf_N_32 cx d_N_extend_33 ?_
        refine v_iload_n cx 2 d_N_extend_36 rfl rfl ?_
        refine v_bipush cx (by decide) d_N_extend_37 ?_
        refine v_imul cx d_N_extend_39 ?_
        refine v_iload cx 4 d_N_extend_40 rfl ?_
        refine v_iadd cx d_N_extend_42 ?_
        obtain ⟨hb9, h⟩ := h
        refine v_iald cx zl_33 (by decide) hb9.1 hb9.2 d_N_extend_43 (fun hl10 => ?_)
        refine v_nm (fun x11 ex11 => ?_)
        replace h := h x11 ex11
        have hx11 : zR x11 := by rw [ex11]; exact hl10
        refine v_istore (lv' := [(0, .ref (ad 28)), (1, .int (zI set_)), (2, .int (zI last)), (3, .int (zI x3)), (4, .int (zI y4)), (5, .int (zI x8)), (6, .int (zI x11))]) cx d_N_extend_44 (by decide) rfl rfl ?_
        refine v_iload_n cx 3 d_N_extend_46 rfl rfl ?_
        refine v_ldc cx ct_N_114 d_N_extend_47 ?_
        refine v_icmp_ge cx 99 d_N_extend_49 (by decide) hx3 ⟨by decide, by decide⟩ (fun c12 => ?_) (fun c12 => ?_)
        · replace h := h.1 c12
          refine v_iinc (lv' := [(0, .ref (ad 28)), (1, .int (zI set_)), (2, .int (zI last)), (3, .int (zI x3)), (4, .int (zI (y4 + 1))), (5, .int (zI x8)), (6, .int (zI x11))]) cx 4 d_N_extend_99 rfl (by decide) rfl rfl ?_
          refine v_goto cx 15 d_N_extend_102 (by decide) ?_
          refine v_sb (lv' := [(0, .ref (ad 28)), (1, .int (zI set_)), (2, .int (zI last)), (3, .int (zI x3)), (4, .int (zI (y4 + 1)))]) [0, 1, 2, 3, 4] rfl ?_
          obtain ⟨hI2, hz14, hm2⟩ := h
          exact ih15 _ _ (Nat.lt_of_lt_of_le hm2 (Nat.le_of_lt_succ hmm15)) hI2 hz14
        · replace h := h.2 c12
          refine v_iload cx 6 d_N_extend_52 rfl ?_
          refine v_ldc cx ct_N_114 d_N_extend_54 ?_
          refine v_icmp_ge cx 99 d_N_extend_56 (by decide) hx11 ⟨by decide, by decide⟩ (fun c15 => ?_) (fun c15 => ?_)
          · replace h := h.1 c15
            refine v_iinc (lv' := [(0, .ref (ad 28)), (1, .int (zI set_)), (2, .int (zI last)), (3, .int (zI x3)), (4, .int (zI (y4 + 1))), (5, .int (zI x8)), (6, .int (zI x11))]) cx 4 d_N_extend_99 rfl (by decide) rfl rfl ?_
            refine v_goto cx 15 d_N_extend_102 (by decide) ?_
            refine v_sb (lv' := [(0, .ref (ad 28)), (1, .int (zI set_)), (2, .int (zI last)), (3, .int (zI x3)), (4, .int (zI (y4 + 1)))]) [0, 1, 2, 3, 4] rfl ?_
            obtain ⟨hI2, hz17, hm2⟩ := h
            exact ih15 _ _ (Nat.lt_of_lt_of_le hm2 (Nat.le_of_lt_succ hmm15)) hI2 hz17
          · replace h := h.2 c15
            refine v_iload_n cx 1 d_N_extend_59 rfl rfl ?_
            refine v_iload cx 5 d_N_extend_60 rfl ?_
            refine v_iand cx d_N_extend_62 ?_
            refine v_if_ne cx 99 d_N_extend_63 (by decide) (zR_and _ _) (fun c18 => ?_) (fun c18 => ?_)
            · replace h := h.1 c18
              refine v_iinc (lv' := [(0, .ref (ad 28)), (1, .int (zI set_)), (2, .int (zI last)), (3, .int (zI x3)), (4, .int (zI (y4 + 1))), (5, .int (zI x8)), (6, .int (zI x11))]) cx 4 d_N_extend_99 rfl (by decide) rfl rfl ?_
              refine v_goto cx 15 d_N_extend_102 (by decide) ?_
              refine v_sb (lv' := [(0, .ref (ad 28)), (1, .int (zI set_)), (2, .int (zI last)), (3, .int (zI x3)), (4, .int (zI (y4 + 1)))]) [0, 1, 2, 3, 4] rfl ?_
              obtain ⟨hI2, hz20, hm2⟩ := h
              exact ih15 _ _ (Nat.lt_of_lt_of_le hm2 (Nat.le_of_lt_succ hmm15)) hI2 hz20
            · replace h := h.2 c18
              refine v_iload_n cx 1 d_N_extend_66 rfl rfl ?_
              refine v_iload cx 5 d_N_extend_67 rfl ?_
              refine v_ior cx d_N_extend_69 ?_
              refine v_bipush cx (by decide) d_N_extend_70 ?_
              refine v_imul cx d_N_extend_72 ?_
              refine v_iload cx 4 d_N_extend_73 rfl ?_
              refine v_iadd cx d_N_extend_75 ?_
              refine v_nm (fun x21 ex21 => ?_)
              replace h := h x21 ex21
              refine v_istore (lv' := [(0, .ref (ad 28)), (1, .int (zI set_)), (2, .int (zI last)), (3, .int (zI x3)), (4, .int (zI y4)), (5, .int (zI x8)), (6, .int (zI x11)), (7, .int (zI x21))]) cx d_N_extend_76 (by decide) rfl rfl ?_
              refine v_aload_n cx 0 d_N_extend_78 rfl rfl ?_
              refine gf_N_35 cx d_N_extend_79 ?_
              refine v_iload cx 7 d_N_extend_82 rfl ?_
              refine v_aload_n cx 0 d_N_extend_84 rfl rfl ?_
              refine gf_N_35 cx d_N_extend_85 ?_
              refine v_iload cx 7 d_N_extend_88 rfl ?_
              obtain ⟨hb22, h⟩ := h
              refine v_iald cx zl_34 (by decide) hb22.1 hb22.2 d_N_extend_90 (fun hl23 => ?_)
              refine v_iload_n cx 3 d_N_extend_91 rfl rfl ?_
              refine v_iload cx 6 d_N_extend_92 rfl ?_
              refine v_iadd cx d_N_extend_94 ?_
              obtain ⟨hr24, h⟩ := h
              refine v_mmin cx lk_N_127 zmath_min.1 zmath_min.2.1 zmath_min.2.2 hl23 hr24 (Nat.le_of_ble_eq_true rfl) (Nat.le_of_ble_eq_true rfl) (Nat.le_of_ble_eq_true rfl) (Nat.le_of_ble_eq_true rfl) d_N_extend_95 (fun hl25 => ?_)
              refine v_iast cx zl_34 (by decide) hb22.1 hb22.2 hl25 d_N_extend_98 ?_
              refine v_ns (fun σ26 eσ26 => ?_)
              replace h := h σ26 eσ26
              refine v_iinc (lv' := [(0, .ref (ad 28)), (1, .int (zI set_)), (2, .int (zI last)), (3, .int (zI x3)), (4, .int (zI (y4 + 1))), (5, .int (zI x8)), (6, .int (zI x11)), (7, .int (zI x21))]) cx 4 d_N_extend_99 rfl (by decide) rfl rfl ?_
              refine v_goto cx 15 d_N_extend_102 (by decide) ?_
              refine v_sb (lv' := [(0, .ref (ad 28)), (1, .int (zI set_)), (2, .int (zI last)), (3, .int (zI x3)), (4, .int (zI (y4 + 1)))]) [0, 1, 2, 3, 4] rfl ?_
              obtain ⟨hI2, hz28, hm2⟩ := h
              exact ih15 _ _ (Nat.lt_of_lt_of_le hm2 (Nat.le_of_lt_succ hmm15)) hI2 hz28
  exact L15 _ _ _ (Nat.lt_succ_self _) h0 ⟨by decide, by decide⟩
def q_N_findLegs (K : zS → Prop) (σ : zS) : Prop :=
  ∃ (I2 : Int → zS → Prop) (μ2 : Int → zS → Nat), (I2 0 σ) ∧ ∀ (y1 : Int) (σ2 : zS), I2 y1 σ2 → zR y1 → 
  ((σ2 28 8) ≤ y1 →
    K σ2) ∧ (y1 < (σ2 28 8) →
    (0 ≤ y1 ∧ y1 < 6) ∧ (q_W_searchAll (σ2 32 y1) (fun σ7 =>
        ∃ (I25 : Int → zS → Prop) (μ25 : Int → zS → Nat), (I25 0 σ7) ∧ ∀ (y8 : Int) (σ9 : zS), I25 y8 σ9 → zR y8 → 
        ((σ9 28 8) ≤ y8 →
          I2 (y1 + 1) σ9 ∧ zR (y1 + 1) ∧ μ2 (y1 + 1) σ9 < μ2 y1 σ2) ∧ (y8 < (σ9 28 8) →
          (0 ≤ y8 ∧ y8 < 6) ∧ (q_W_costBetween (σ9 32 y8) (σ9 32 y1) (fun r18 σ17 =>
              (r18 ≠ (-1) →
                (0 ≤ (y1 * 6) + y8 ∧ (y1 * 6) + y8 < 36) ∧ (∀ σ21 : zS, σ21 = zU σ17 33 ((y1 * 6) + y8) r18 → I25 (y8 + 1) σ21 ∧ zR (y8 + 1) ∧ μ25 (y8 + 1) σ21 < μ25 y8 σ9)) ∧ (r18 = (-1) →
                (0 ≤ (y1 * 6) + y8 ∧ (y1 * 6) + y8 < 36) ∧ (∀ σ25 : zS, σ25 = zU σ17 33 ((y1 * 6) + y8) 1000000000 → I25 (y8 + 1) σ25 ∧ zR (y8 + 1) ∧ μ25 (y8 + 1) σ25 < μ25 y8 σ9))) σ9))) σ2))
abbrev rm_N_findLegs : Room := { frames := 5, cells := 0, slots := 0, locals := 122 }
set_option maxRecDepth 20000 in
set_option maxHeartbeats 4000000 in
theorem s_N_findLegs {Ω : zO} {ad : Nat → Nat} {K : zS → Prop} {σ : zS}  (h : q_N_findLegs K σ) : zMv Ω y_N_findLegs (.code y_N_findLegs c_N_findLegs 4 none) rm_N_findLegs zLy ad [.ref (ad 28)] σ K := by
  refine z_ofv (lv := [(0, .ref (ad 28))]) (by decide) rfl (Nat.le_of_ble_eq_true rfl) ?_
  intro Γ Q cx rt
  unfold q_N_findLegs at h
  refine v_iconst cx d_N_findLegs_0 ?_
  refine v_istore_n (lv' := [(0, .ref (ad 28)), (1, .int (zI 0))]) cx d_N_findLegs_1 rfl (by decide) rfl rfl ?_
  obtain ⟨I2, μ2, h0, h⟩ := h
  have L2 : ∀ (N2 : Nat) (y1 : Int) (σ2 : zS), μ2 y1 σ2 < N2 → I2 y1 σ2 → zR y1 → zV Ω Γ rm_N_findLegs 4 Q 0 0 zLy ad σ2 2 [(0, .ref (ad 28)), (1, .int (zI y1))] [] := by
    intro N2
    induction N2 with
    | zero => intro y1 σ2 hm; exact absurd hm (Nat.not_lt_zero _)
    | succ N2 ih2 =>
      intro y1 σ2 hmm2 hI hy1
      replace h := h y1 σ2 hI hy1
      refine v_iload_n cx 1 d_N_findLegs_2 rfl rfl ?_
      refine v_aload_n cx 0 d_N_findLegs_3 rfl rfl ?_
      refine gf_N_38 cx d_N_findLegs_4 (fun hl3 => ?_)
      refine v_icmp_ge cx 87 d_N_findLegs_7 (by decide) hy1 hl3 (fun c4 => ?_) (fun c4 => ?_)
      · replace h := h.1 c4
        exact rt _ _ _ _ _ (Nat.le_of_ble_eq_true rfl) (Nat.le_of_ble_eq_true rfl) d_N_findLegs_87 h
      · replace h := h.2 c4
        refine v_aload_n cx 0 d_N_findLegs_10 rfl rfl ?_
        refine gf_N_15 cx d_N_findLegs_11 ?_
        refine v_aload_n cx 0 d_N_findLegs_14 rfl rfl ?_
        refine gf_N_29 cx d_N_findLegs_15 ?_
        refine v_iload_n cx 1 d_N_findLegs_18 rfl rfl ?_
        obtain ⟨hb5, h⟩ := h
        refine v_iald cx zl_32 (by decide) hb5.1 hb5.2 d_N_findLegs_19 (fun hl6 => ?_)
        refine v_callVv0 (st := []) cx (s_W_searchAll hl6 h) yk_W_searchAll lk_N_107 zl_15 rfl rfl rfl (Nat.le_of_ble_eq_true rfl) ⟨Nat.le_of_ble_eq_true rfl, Nat.le_of_ble_eq_true rfl⟩ ⟨rfl, rfl⟩ ⟨(Nat.le_of_ble_eq_true rfl), (Nat.le_of_ble_eq_true rfl)⟩ d_N_findLegs_20 (fun σ7 h => ?_)
        refine v_iconst cx d_N_findLegs_23 ?_
        refine v_istore_n (lv' := [(0, .ref (ad 28)), (1, .int (zI y1)), (2, .int (zI 0))]) cx d_N_findLegs_24 rfl (by decide) rfl rfl ?_
        obtain ⟨I25, μ25, h0, h⟩ := h
        have L25 : ∀ (N25 : Nat) (y8 : Int) (σ9 : zS), μ25 y8 σ9 < N25 → I25 y8 σ9 → zR y8 → zV Ω Γ rm_N_findLegs 4 Q 0 0 zLy ad σ9 25 [(0, .ref (ad 28)), (1, .int (zI y1)), (2, .int (zI y8))] [] := by
          intro N25
          induction N25 with
          | zero => intro y8 σ9 hm; exact absurd hm (Nat.not_lt_zero _)
          | succ N25 ih25 =>
            intro y8 σ9 hmm25 hI hy8
            replace h := h y8 σ9 hI hy8
            refine v_iload_n cx 2 d_N_findLegs_25 rfl rfl ?_
            refine v_aload_n cx 0 d_N_findLegs_26 rfl rfl ?_
            refine gf_N_38 cx d_N_findLegs_27 (fun hl10 => ?_)
            refine v_icmp_ge cx 81 d_N_findLegs_30 (by decide) hy8 hl10 (fun c11 => ?_) (fun c11 => ?_)
            · replace h := h.1 c11
              refine v_iinc (lv' := [(0, .ref (ad 28)), (1, .int (zI (y1 + 1))), (2, .int (zI y8))]) cx 1 d_N_findLegs_81 rfl (by decide) rfl rfl ?_
              refine v_goto cx 2 d_N_findLegs_84 (by decide) ?_
              refine v_sb (lv' := [(0, .ref (ad 28)), (1, .int (zI (y1 + 1)))]) [0, 1] rfl ?_
              obtain ⟨hI2, hz13, hm2⟩ := h
              exact ih2 _ _ (Nat.lt_of_lt_of_le hm2 (Nat.le_of_lt_succ hmm2)) hI2 hz13
            · replace h := h.2 c11
              refine v_aload_n cx 0 d_N_findLegs_33 rfl rfl ?_
              refine gf_N_15 cx d_N_findLegs_34 ?_
              refine v_aload_n cx 0 d_N_findLegs_37 rfl rfl ?_
              refine gf_N_29 cx d_N_findLegs_38 ?_
              refine v_iload_n cx 2 d_N_findLegs_41 rfl rfl ?_
              obtain ⟨hb14, h⟩ := h
              refine v_iald cx zl_32 (by decide) hb14.1 hb14.2 d_N_findLegs_42 (fun hl15 => ?_)
              refine v_aload_n cx 0 d_N_findLegs_43 rfl rfl ?_
              refine gf_N_29 cx d_N_findLegs_44 ?_
              refine v_iload_n cx 1 d_N_findLegs_47 rfl rfl ?_
              refine v_iald cx zl_32 (by decide) hb5.1 hb5.2 d_N_findLegs_48 (fun hl16 => ?_)
              refine v_callVi0 (st := []) cx (s_W_costBetween hl15 hl16 h) yk_W_costBetween lk_N_111 zl_15 rfl rfl rfl (Nat.le_of_ble_eq_true rfl) ⟨Nat.le_of_ble_eq_true rfl, Nat.le_of_ble_eq_true rfl⟩ ⟨rfl, rfl⟩ ⟨(Nat.le_of_ble_eq_true rfl), (Nat.le_of_ble_eq_true rfl)⟩ d_N_findLegs_49 (fun r18 σ17 hr18 h => ?_)
              refine v_istore_n (lv' := [(0, .ref (ad 28)), (1, .int (zI y1)), (2, .int (zI y8)), (3, .int (zI r18))]) cx d_N_findLegs_52 rfl (by decide) rfl rfl ?_
              refine v_aload_n cx 0 d_N_findLegs_53 rfl rfl ?_
              refine gf_N_32 cx d_N_findLegs_54 ?_
              refine v_iload_n cx 1 d_N_findLegs_57 rfl rfl ?_
              refine v_bipush cx (by decide) d_N_findLegs_58 ?_
              refine v_imul cx d_N_findLegs_60 ?_
              refine v_iload_n cx 2 d_N_findLegs_61 rfl rfl ?_
              refine v_iadd cx d_N_findLegs_62 ?_
              refine v_iload_n cx 3 d_N_findLegs_63 rfl rfl ?_
              refine v_iconst cx d_N_findLegs_64 ?_
              refine v_icmp_ne cx 73 d_N_findLegs_65 (by decide) hr18 ⟨by decide, by decide⟩ (fun c19 => ?_) (fun c19 => ?_)
              · replace h := h.1 c19
                refine v_iload_n cx 3 d_N_findLegs_73 rfl rfl ?_
                obtain ⟨hb20, h⟩ := h
                refine v_iast cx zl_33 (by decide) hb20.1 hb20.2 hr18 d_N_findLegs_74 ?_
                refine v_ns (fun σ21 eσ21 => ?_)
                replace h := h σ21 eσ21
                refine v_iinc (lv' := [(0, .ref (ad 28)), (1, .int (zI y1)), (2, .int (zI (y8 + 1))), (3, .int (zI r18))]) cx 2 d_N_findLegs_75 rfl (by decide) rfl rfl ?_
                refine v_goto cx 25 d_N_findLegs_78 (by decide) ?_
                refine v_sb (lv' := [(0, .ref (ad 28)), (1, .int (zI y1)), (2, .int (zI (y8 + 1)))]) [0, 1, 2] rfl ?_
                obtain ⟨hI2, hz23, hm2⟩ := h
                exact ih25 _ _ (Nat.lt_of_lt_of_le hm2 (Nat.le_of_lt_succ hmm25)) hI2 hz23
              · replace h := h.2 c19
                refine v_ldc cx ct_N_114 d_N_findLegs_68 ?_
                refine v_goto cx 74 d_N_findLegs_70 (by decide) ?_
                obtain ⟨hb24, h⟩ := h
                refine v_iast cx zl_33 (by decide) hb24.1 hb24.2 ⟨by decide, by decide⟩ d_N_findLegs_74 ?_
                refine v_ns (fun σ25 eσ25 => ?_)
                replace h := h σ25 eσ25
                refine v_iinc (lv' := [(0, .ref (ad 28)), (1, .int (zI y1)), (2, .int (zI (y8 + 1))), (3, .int (zI r18))]) cx 2 d_N_findLegs_75 rfl (by decide) rfl rfl ?_
                refine v_goto cx 25 d_N_findLegs_78 (by decide) ?_
                refine v_sb (lv' := [(0, .ref (ad 28)), (1, .int (zI y1)), (2, .int (zI (y8 + 1)))]) [0, 1, 2] rfl ?_
                obtain ⟨hI2, hz27, hm2⟩ := h
                exact ih25 _ _ (Nat.lt_of_lt_of_le hm2 (Nat.le_of_lt_succ hmm25)) hI2 hz27
        exact L25 _ _ _ (Nat.lt_succ_self _) h0 ⟨by decide, by decide⟩
  exact L2 _ _ _ (Nat.lt_succ_self _) h0 ⟨by decide, by decide⟩
def q_N_leastRound (K : Int → zS → Prop) (σ : zS) : Prop :=
  q_N_findLegs (fun σ1 =>
    ∀ x3 : Int, x3 = zShl 1 ((σ1 28 8) - 1) → q_J_fill2 34 192 1000000000 (fun σ4 =>
      ∃ (I24 : Int → zS → Prop) (μ24 : Int → zS → Nat), (I24 1 σ4) ∧ ∀ (y5 : Int) (σ6 : zS), I24 y5 σ6 → zR y5 → 
      ((σ6 28 8) ≤ y5 →
        ∃ (I61 : Int → zS → Prop) (μ61 : Int → zS → Nat), (I61 1 σ6) ∧ ∀ (y9 : Int) (σ10 : zS), I61 y9 σ10 → zR y9 → 
        (x3 ≤ y9 →
          ∃ (I99 : Int → Int → Prop) (μ99 : Int → Int → Nat), (I99 1000000000 1) ∧ ∀ (y12 y13 : Int), I99 y12 y13 → zR y12 → zR y13 → 
          ((σ10 28 8) ≤ y13 →
            (y12 < 1000000000 →
              K y12 σ10) ∧ (1000000000 ≤ y12 →
              K (-1) σ10)) ∧ (y13 < (σ10 28 8) →
            (0 ≤ ((x3 - 1) * 6) + y13 ∧ ((x3 - 1) * 6) + y13 < 192) ∧ ((0 ≤ y13 ∧ y13 < 36) ∧ (zR ((σ10 34 (((x3 - 1) * 6) + y13)) + (σ10 33 y13)) ∧ (∀ x23 : Int, x23 = min y12 ((σ10 34 (((x3 - 1) * 6) + y13)) + (σ10 33 y13)) → I99 x23 (y13 + 1) ∧ zR (y13 + 1) ∧ μ99 x23 (y13 + 1) < μ99 y12 y13))))) ∧ (y9 < x3 →
          ∃ (I68 : Int → zS → Prop) (μ68 : Int → zS → Nat), (I68 1 σ10) ∧ ∀ (y26 : Int) (σ27 : zS), I68 y26 σ27 → zR y26 → 
          ((σ27 28 8) ≤ y26 →
            I61 (y9 + 1) σ27 ∧ zR (y9 + 1) ∧ μ61 (y9 + 1) σ27 < μ61 y9 σ10) ∧ (y26 < (σ27 28 8) →
            q_N_extend y9 y26 (fun σ32 =>
              I68 (y26 + 1) σ32 ∧ zR (y26 + 1) ∧ μ68 (y26 + 1) σ32 < μ68 y26 σ27) σ27))) ∧ (y5 < (σ6 28 8) →
        (0 ≤ y5 ∧ y5 < 36) ∧ ((0 ≤ ((zShl 1 (y5 - 1)) * 6) + y5 ∧ ((zShl 1 (y5 - 1)) * 6) + y5 < 192) ∧ (∀ σ38 : zS, σ38 = zU σ6 34 (((zShl 1 (y5 - 1)) * 6) + y5) (σ6 33 y5) → I24 (y5 + 1) σ38 ∧ zR (y5 + 1) ∧ μ24 (y5 + 1) σ38 < μ24 y5 σ6)))) σ1) σ
abbrev rm_N_leastRound : Room := { frames := 6, cells := 0, slots := 0, locals := 145 }
set_option maxRecDepth 20000 in
set_option maxHeartbeats 4000000 in
theorem s_N_leastRound {Ω : zO} {ad : Nat → Nat} {K : Int → zS → Prop} {σ : zS}  (h : q_N_leastRound K σ) : zMi Ω y_N_leastRound (.code y_N_leastRound c_N_leastRound 4 (some .int)) rm_N_leastRound zLy ad [.ref (ad 28)] σ K := by
  refine z_ofi (lv := [(0, .ref (ad 28))]) (by decide) rfl (Nat.le_of_ble_eq_true rfl) ?_
  intro Γ Q cx rt
  unfold q_N_leastRound at h
  refine v_aload_n cx 0 d_N_leastRound_0 rfl rfl ?_
  refine v_callVv0 (st := []) cx (s_N_findLegs  h) yk_N_findLegs lk_N_120 zl_28 rfl rfl rfl (Nat.le_of_ble_eq_true rfl) ⟨Nat.le_of_ble_eq_true rfl, Nat.le_of_ble_eq_true rfl⟩ ⟨rfl, rfl⟩ ⟨(Nat.le_of_ble_eq_true rfl), (Nat.le_of_ble_eq_true rfl)⟩ d_N_leastRound_1 (fun σ1 h => ?_)
  refine v_iconst cx d_N_leastRound_4 ?_
  refine v_aload_n cx 0 d_N_leastRound_5 rfl rfl ?_
  refine gf_N_38 cx d_N_leastRound_6 (fun hl2 => ?_)
  refine v_iconst cx d_N_leastRound_9 ?_
  refine v_isub cx d_N_leastRound_10 ?_
  refine v_ishl cx d_N_leastRound_11 ?_
  refine v_nm (fun x3 ex3 => ?_)
  replace h := h x3 ex3
  have hx3 : zR x3 := by rw [ex3]; exact (zR_shl _ _)
  refine v_istore_n (lv' := [(0, .ref (ad 28)), (1, .int (zI x3))]) cx d_N_leastRound_12 rfl (by decide) rfl rfl ?_
  refine v_aload_n cx 0 d_N_leastRound_13 rfl rfl ?_
  refine gf_N_35 cx d_N_leastRound_14 ?_
  refine v_ldc cx ct_N_114 d_N_leastRound_17 ?_
  refine v_callSv0 (st := []) cx (s_J_fill2 (o := 34) zl_34 (by decide) ⟨by decide, by decide⟩ h) yk_J_fill2 lk_N_83 rfl rfl (Nat.le_of_ble_eq_true rfl) ⟨Nat.le_of_ble_eq_true rfl, Nat.le_of_ble_eq_true rfl⟩ ⟨rfl, rfl⟩ ⟨Nat.le_of_ble_eq_true rfl, Nat.le_of_ble_eq_true rfl⟩ d_N_leastRound_19 (fun σ4 h => ?_)
  refine v_iconst cx d_N_leastRound_22 ?_
  refine v_istore_n (lv' := [(0, .ref (ad 28)), (1, .int (zI x3)), (2, .int (zI 1))]) cx d_N_leastRound_23 rfl (by decide) rfl rfl ?_
  obtain ⟨I24, μ24, h0, h⟩ := h
  have L24 : ∀ (N24 : Nat) (y5 : Int) (σ6 : zS), μ24 y5 σ6 < N24 → I24 y5 σ6 → zR y5 → zV Ω Γ rm_N_leastRound 4 Q 0 0 zLy ad σ6 24 [(0, .ref (ad 28)), (1, .int (zI x3)), (2, .int (zI y5))] [] := by
    intro N24
    induction N24 with
    | zero => intro y5 σ6 hm; exact absurd hm (Nat.not_lt_zero _)
    | succ N24 ih24 =>
      intro y5 σ6 hmm24 hI hy5
      replace h := h y5 σ6 hI hy5
      refine v_iload_n cx 2 d_N_leastRound_24 rfl rfl ?_
      refine v_aload_n cx 0 d_N_leastRound_25 rfl rfl ?_
      refine gf_N_38 cx d_N_leastRound_26 (fun hl7 => ?_)
      refine v_icmp_ge cx 59 d_N_leastRound_29 (by decide) hy5 hl7 (fun c8 => ?_) (fun c8 => ?_)
      · replace h := h.1 c8
        refine v_iconst cx d_N_leastRound_59 ?_
        refine v_istore_n (lv' := [(0, .ref (ad 28)), (1, .int (zI x3)), (2, .int (zI 1))]) cx d_N_leastRound_60 rfl (by decide) rfl rfl ?_
        obtain ⟨I61, μ61, h0, h⟩ := h
        have L61 : ∀ (N61 : Nat) (y9 : Int) (σ10 : zS), μ61 y9 σ10 < N61 → I61 y9 σ10 → zR y9 → zV Ω Γ rm_N_leastRound 4 Q 0 0 zLy ad σ10 61 [(0, .ref (ad 28)), (1, .int (zI x3)), (2, .int (zI y9))] [] := by
          intro N61
          induction N61 with
          | zero => intro y9 σ10 hm; exact absurd hm (Nat.not_lt_zero _)
          | succ N61 ih61 =>
            intro y9 σ10 hmm61 hI hy9
            replace h := h y9 σ10 hI hy9
            refine v_iload_n cx 2 d_N_leastRound_61 rfl rfl ?_
            refine v_iload_n cx 1 d_N_leastRound_62 rfl rfl ?_
            refine v_icmp_ge cx 94 d_N_leastRound_63 (by decide) hy9 hx3 (fun c11 => ?_) (fun c11 => ?_)
            · replace h := h.1 c11
              refine v_ldc cx ct_N_114 d_N_leastRound_94 ?_
              refine v_istore_n (lv' := [(0, .ref (ad 28)), (1, .int (zI x3)), (2, .int (zI 1000000000))]) cx d_N_leastRound_96 rfl (by decide) rfl rfl ?_
              refine v_iconst cx d_N_leastRound_97 ?_
              refine v_istore_n (lv' := [(0, .ref (ad 28)), (1, .int (zI x3)), (2, .int (zI 1000000000)), (3, .int (zI 1))]) cx d_N_leastRound_98 rfl (by decide) rfl rfl ?_
              obtain ⟨I99, μ99, h0, h⟩ := h
              have L99 : ∀ (N99 : Nat) (y12 y13 : Int), μ99 y12 y13 < N99 → I99 y12 y13 → zR y12 → zR y13 → zV Ω Γ rm_N_leastRound 4 Q 0 0 zLy ad σ10 99 [(0, .ref (ad 28)), (1, .int (zI x3)), (2, .int (zI y12)), (3, .int (zI y13))] [] := by
                intro N99
                induction N99 with
                | zero => intro y12 y13 hm; exact absurd hm (Nat.not_lt_zero _)
                | succ N99 ih99 =>
                  intro y12 y13 hmm99 hI hy12 hy13
                  replace h := h y12 y13 hI hy12 hy13
                  refine v_iload_n cx 3 d_N_leastRound_99 rfl rfl ?_
                  refine v_aload_n cx 0 d_N_leastRound_100 rfl rfl ?_
                  refine gf_N_38 cx d_N_leastRound_101 (fun hl14 => ?_)
                  refine v_icmp_ge cx 138 d_N_leastRound_104 (by decide) hy13 hl14 (fun c15 => ?_) (fun c15 => ?_)
                  · replace h := h.1 c15
                    refine v_iload_n cx 2 d_N_leastRound_138 rfl rfl ?_
                    refine v_ldc cx ct_N_114 d_N_leastRound_139 ?_
                    refine v_icmp_lt cx 148 d_N_leastRound_141 (by decide) hy12 ⟨by decide, by decide⟩ (fun c16 => ?_) (fun c16 => ?_)
                    · replace h := h.1 c16
                      refine v_iload_n cx 2 d_N_leastRound_148 rfl rfl ?_
                      exact rt _ _ _ _ _ _ (Nat.le_of_ble_eq_true rfl) (Nat.le_of_ble_eq_true rfl) d_N_leastRound_149 hy12 h
                    · replace h := h.2 c16
                      refine v_iconst cx d_N_leastRound_144 ?_
                      refine v_goto cx 149 d_N_leastRound_145 (by decide) ?_
                      exact rt _ _ _ _ _ _ (Nat.le_of_ble_eq_true rfl) (Nat.le_of_ble_eq_true rfl) d_N_leastRound_149 ⟨by decide, by decide⟩ h
                  · replace h := h.2 c15
                    refine v_iload_n cx 2 d_N_leastRound_107 rfl rfl ?_
                    refine v_aload_n cx 0 d_N_leastRound_108 rfl rfl ?_
                    refine gf_N_35 cx d_N_leastRound_109 ?_
                    refine v_iload_n cx 1 d_N_leastRound_112 rfl rfl ?_
                    refine v_iconst cx d_N_leastRound_113 ?_
                    refine v_isub cx d_N_leastRound_114 ?_
                    refine v_bipush cx (by decide) d_N_leastRound_115 ?_
                    refine v_imul cx d_N_leastRound_117 ?_
                    refine v_iload_n cx 3 d_N_leastRound_118 rfl rfl ?_
                    refine v_iadd cx d_N_leastRound_119 ?_
                    obtain ⟨hb17, h⟩ := h
                    refine v_iald cx zl_34 (by decide) hb17.1 hb17.2 d_N_leastRound_120 (fun hl18 => ?_)
                    refine v_aload_n cx 0 d_N_leastRound_121 rfl rfl ?_
                    refine gf_N_32 cx d_N_leastRound_122 ?_
                    refine v_iload_n cx 3 d_N_leastRound_125 rfl rfl ?_
                    obtain ⟨hb19, h⟩ := h
                    refine v_iald cx zl_33 (by decide) hb19.1 hb19.2 d_N_leastRound_126 (fun hl20 => ?_)
                    refine v_iadd cx d_N_leastRound_127 ?_
                    obtain ⟨hr21, h⟩ := h
                    refine v_mmin cx lk_N_127 zmath_min.1 zmath_min.2.1 zmath_min.2.2 hy12 hr21 (Nat.le_of_ble_eq_true rfl) (Nat.le_of_ble_eq_true rfl) (Nat.le_of_ble_eq_true rfl) (Nat.le_of_ble_eq_true rfl) d_N_leastRound_128 (fun hl22 => ?_)
                    refine v_nm (fun x23 ex23 => ?_)
                    replace h := h x23 ex23
                    have hx23 : zR x23 := by rw [ex23]; exact hl22
                    refine v_istore_n (lv' := [(0, .ref (ad 28)), (1, .int (zI x3)), (2, .int (zI x23)), (3, .int (zI y13))]) cx d_N_leastRound_131 rfl (by decide) rfl rfl ?_
                    refine v_iinc (lv' := [(0, .ref (ad 28)), (1, .int (zI x3)), (2, .int (zI x23)), (3, .int (zI (y13 + 1)))]) cx 3 d_N_leastRound_132 rfl (by decide) rfl rfl ?_
                    refine v_goto cx 99 d_N_leastRound_135 (by decide) ?_
                    obtain ⟨hI2, hz25, hm2⟩ := h
                    exact ih99 _ _ (Nat.lt_of_lt_of_le hm2 (Nat.le_of_lt_succ hmm99)) hI2 hx23 hz25
              exact L99 _ _ _ (Nat.lt_succ_self _) h0 ⟨by decide, by decide⟩ ⟨by decide, by decide⟩
            · replace h := h.2 c11
              refine v_iconst cx d_N_leastRound_66 ?_
              refine v_istore_n (lv' := [(0, .ref (ad 28)), (1, .int (zI x3)), (2, .int (zI y9)), (3, .int (zI 1))]) cx d_N_leastRound_67 rfl (by decide) rfl rfl ?_
              obtain ⟨I68, μ68, h0, h⟩ := h
              have L68 : ∀ (N68 : Nat) (y26 : Int) (σ27 : zS), μ68 y26 σ27 < N68 → I68 y26 σ27 → zR y26 → zV Ω Γ rm_N_leastRound 4 Q 0 0 zLy ad σ27 68 [(0, .ref (ad 28)), (1, .int (zI x3)), (2, .int (zI y9)), (3, .int (zI y26))] [] := by
                intro N68
                induction N68 with
                | zero => intro y26 σ27 hm; exact absurd hm (Nat.not_lt_zero _)
                | succ N68 ih68 =>
                  intro y26 σ27 hmm68 hI hy26
                  replace h := h y26 σ27 hI hy26
                  refine v_iload_n cx 3 d_N_leastRound_68 rfl rfl ?_
                  refine v_aload_n cx 0 d_N_leastRound_69 rfl rfl ?_
                  refine gf_N_38 cx d_N_leastRound_70 (fun hl28 => ?_)
                  refine v_icmp_ge cx 88 d_N_leastRound_73 (by decide) hy26 hl28 (fun c29 => ?_) (fun c29 => ?_)
                  · replace h := h.1 c29
                    refine v_iinc (lv' := [(0, .ref (ad 28)), (1, .int (zI x3)), (2, .int (zI (y9 + 1))), (3, .int (zI y26))]) cx 2 d_N_leastRound_88 rfl (by decide) rfl rfl ?_
                    refine v_goto cx 61 d_N_leastRound_91 (by decide) ?_
                    refine v_sb (lv' := [(0, .ref (ad 28)), (1, .int (zI x3)), (2, .int (zI (y9 + 1)))]) [0, 1, 2] rfl ?_
                    obtain ⟨hI2, hz31, hm2⟩ := h
                    exact ih61 _ _ (Nat.lt_of_lt_of_le hm2 (Nat.le_of_lt_succ hmm61)) hI2 hz31
                  · replace h := h.2 c29
                    refine v_aload_n cx 0 d_N_leastRound_76 rfl rfl ?_
                    refine v_iload_n cx 2 d_N_leastRound_77 rfl rfl ?_
                    refine v_iload_n cx 3 d_N_leastRound_78 rfl rfl ?_
                    refine v_callVv0 (st := []) cx (s_N_extend hy9 hy26 h) yk_N_extend lk_N_123 zl_28 rfl rfl rfl (Nat.le_of_ble_eq_true rfl) ⟨Nat.le_of_ble_eq_true rfl, Nat.le_of_ble_eq_true rfl⟩ ⟨rfl, rfl⟩ ⟨(Nat.le_of_ble_eq_true rfl), (Nat.le_of_ble_eq_true rfl)⟩ d_N_leastRound_79 (fun σ32 h => ?_)
                    refine v_iinc (lv' := [(0, .ref (ad 28)), (1, .int (zI x3)), (2, .int (zI y9)), (3, .int (zI (y26 + 1)))]) cx 3 d_N_leastRound_82 rfl (by decide) rfl rfl ?_
                    refine v_goto cx 68 d_N_leastRound_85 (by decide) ?_
                    obtain ⟨hI2, hz34, hm2⟩ := h
                    exact ih68 _ _ (Nat.lt_of_lt_of_le hm2 (Nat.le_of_lt_succ hmm68)) hI2 hz34
              exact L68 _ _ _ (Nat.lt_succ_self _) h0 ⟨by decide, by decide⟩
        exact L61 _ _ _ (Nat.lt_succ_self _) h0 ⟨by decide, by decide⟩
      · replace h := h.2 c8
        refine v_aload_n cx 0 d_N_leastRound_32 rfl rfl ?_
        refine gf_N_35 cx d_N_leastRound_33 ?_
        refine v_iconst cx d_N_leastRound_36 ?_
        refine v_iload_n cx 2 d_N_leastRound_37 rfl rfl ?_
        refine v_iconst cx d_N_leastRound_38 ?_
        refine v_isub cx d_N_leastRound_39 ?_
        refine v_ishl cx d_N_leastRound_40 ?_
        refine v_bipush cx (by decide) d_N_leastRound_41 ?_
        refine v_imul cx d_N_leastRound_43 ?_
        refine v_iload_n cx 2 d_N_leastRound_44 rfl rfl ?_
        refine v_iadd cx d_N_leastRound_45 ?_
        refine v_aload_n cx 0 d_N_leastRound_46 rfl rfl ?_
        refine gf_N_32 cx d_N_leastRound_47 ?_
        refine v_iload_n cx 2 d_N_leastRound_50 rfl rfl ?_
        obtain ⟨hb35, h⟩ := h
        refine v_iald cx zl_33 (by decide) hb35.1 hb35.2 d_N_leastRound_51 (fun hl36 => ?_)
        obtain ⟨hb37, h⟩ := h
        refine v_iast cx zl_34 (by decide) hb37.1 hb37.2 hl36 d_N_leastRound_52 ?_
        refine v_ns (fun σ38 eσ38 => ?_)
        replace h := h σ38 eσ38
        refine v_iinc (lv' := [(0, .ref (ad 28)), (1, .int (zI x3)), (2, .int (zI (y5 + 1)))]) cx 2 d_N_leastRound_53 rfl (by decide) rfl rfl ?_
        refine v_goto cx 24 d_N_leastRound_56 (by decide) ?_
        obtain ⟨hI2, hz40, hm2⟩ := h
        exact ih24 _ _ (Nat.lt_of_lt_of_le hm2 (Nat.le_of_lt_succ hmm24)) hI2 hz40
  exact L24 _ _ _ (Nat.lt_succ_self _) h0 ⟨by decide, by decide⟩
def q_N_joiningIndex (place : Int) (which : Int) (K : Int → zS → Prop) (σ : zS) : Prop :=
  q_W_searchAll place (fun σ1 =>
    ∃ (I17 : Int → Int → Int → zS → Prop) (μ17 : Int → Int → Int → zS → Nat), (I17 (-1) 1000000000 0 σ1) ∧ ∀ (y2 y3 y4 : Int) (σ5 : zS), I17 y2 y3 y4 σ5 → zR y2 → zR y3 → zR y4 → 
    q_L_roadSize which (fun r7 σ6 =>
      (r7 ≤ y4 →
        K y2 σ6) ∧ (y4 < r7 →
        q_L_roadPlace which y4 (fun r10 σ9 =>
          q_W_costBetween r10 place (fun r12 σ11 =>
            (r12 = (-1) →
              I17 y2 y3 (y4 + 1) σ11 ∧ zR (y4 + 1) ∧ μ17 y2 y3 (y4 + 1) σ11 < μ17 y2 y3 y4 σ5) ∧ (r12 ≠ (-1) →
              (y3 ≤ r12 →
                I17 y2 y3 (y4 + 1) σ11 ∧ zR (y4 + 1) ∧ μ17 y2 y3 (y4 + 1) σ11 < μ17 y2 y3 y4 σ5) ∧ (r12 < y3 →
                I17 y4 r12 (y4 + 1) σ11 ∧ zR (y4 + 1) ∧ μ17 y4 r12 (y4 + 1) σ11 < μ17 y2 y3 y4 σ5))) σ9) σ6)) σ5) σ
abbrev rm_N_joiningIndex : Room := { frames := 5, cells := 0, slots := 0, locals := 122 }
set_option maxRecDepth 20000 in
set_option maxHeartbeats 4000000 in
theorem s_N_joiningIndex {Ω : zO} {ad : Nat → Nat} {place : Int} {which : Int} {K : Int → zS → Prop} {σ : zS} (hplace : zR place) (hwhich : zR which) (h : q_N_joiningIndex place which K σ) : zMi Ω y_N_joiningIndex (.code y_N_joiningIndex c_N_joiningIndex 7 (some .int)) rm_N_joiningIndex zLy ad [.ref (ad 28), .int (zI place), .int (zI which)] σ K := by
  refine z_ofi (lv := [(0, .ref (ad 28)), (1, .int (zI place)), (2, .int (zI which))]) (by decide) rfl (Nat.le_of_ble_eq_true rfl) ?_
  intro Γ Q cx rt
  unfold q_N_joiningIndex at h
  refine v_aload_n cx 0 d_N_joiningIndex_0 rfl rfl ?_
  refine gf_N_15 cx d_N_joiningIndex_1 ?_
  refine v_iload_n cx 1 d_N_joiningIndex_4 rfl rfl ?_
  refine v_callVv0 (st := []) cx (s_W_searchAll hplace h) yk_W_searchAll lk_N_107 zl_15 rfl rfl rfl (Nat.le_of_ble_eq_true rfl) ⟨Nat.le_of_ble_eq_true rfl, Nat.le_of_ble_eq_true rfl⟩ ⟨rfl, rfl⟩ ⟨(Nat.le_of_ble_eq_true rfl), (Nat.le_of_ble_eq_true rfl)⟩ d_N_joiningIndex_5 (fun σ1 h => ?_)
  refine v_iconst cx d_N_joiningIndex_8 ?_
  refine v_istore_n (lv' := [(0, .ref (ad 28)), (1, .int (zI place)), (2, .int (zI which)), (3, .int (zI (-1)))]) cx d_N_joiningIndex_9 rfl (by decide) rfl rfl ?_
  refine v_ldc cx ct_N_114 d_N_joiningIndex_10 ?_
  refine v_istore (lv' := [(0, .ref (ad 28)), (1, .int (zI place)), (2, .int (zI which)), (3, .int (zI (-1))), (4, .int (zI 1000000000))]) cx d_N_joiningIndex_12 (by decide) rfl rfl ?_
  refine v_iconst cx d_N_joiningIndex_14 ?_
  refine v_istore (lv' := [(0, .ref (ad 28)), (1, .int (zI place)), (2, .int (zI which)), (3, .int (zI (-1))), (4, .int (zI 1000000000)), (5, .int (zI 0))]) cx d_N_joiningIndex_15 (by decide) rfl rfl ?_
  obtain ⟨I17, μ17, h0, h⟩ := h
  have L17 : ∀ (N17 : Nat) (y2 y3 y4 : Int) (σ5 : zS), μ17 y2 y3 y4 σ5 < N17 → I17 y2 y3 y4 σ5 → zR y2 → zR y3 → zR y4 → zV Ω Γ rm_N_joiningIndex 7 Q 0 0 zLy ad σ5 17 [(0, .ref (ad 28)), (1, .int (zI place)), (2, .int (zI which)), (3, .int (zI y2)), (4, .int (zI y3)), (5, .int (zI y4))] [] := by
    intro N17
    induction N17 with
    | zero => intro y2 y3 y4 σ5 hm; exact absurd hm (Nat.not_lt_zero _)
    | succ N17 ih17 =>
      intro y2 y3 y4 σ5 hmm17 hI hy2 hy3 hy4
      replace h := h y2 y3 y4 σ5 hI hy2 hy3 hy4
      refine v_iload cx 5 d_N_joiningIndex_17 rfl ?_
      refine v_aload_n cx 0 d_N_joiningIndex_19 rfl rfl ?_
      refine gf_N_9 cx d_N_joiningIndex_20 ?_
      refine v_iload_n cx 2 d_N_joiningIndex_23 rfl rfl ?_
      refine v_callVi0 (st := [.int (zI y4)]) cx (s_L_roadSize hwhich h) yk_L_roadSize lk_N_132 zl_3 rfl rfl rfl (Nat.le_of_ble_eq_true rfl) ⟨Nat.le_of_ble_eq_true rfl, Nat.le_of_ble_eq_true rfl⟩ ⟨rfl, rfl⟩ ⟨(Nat.le_of_ble_eq_true rfl), (Nat.le_of_ble_eq_true rfl)⟩ d_N_joiningIndex_24 (fun r7 σ6 hr7 h => ?_)
      refine v_icmp_ge cx 76 d_N_joiningIndex_27 (by decide) hy4 hr7 (fun c8 => ?_) (fun c8 => ?_)
      · replace h := h.1 c8
        refine v_iload_n cx 3 d_N_joiningIndex_76 rfl rfl ?_
        exact rt _ _ _ _ _ _ (Nat.le_of_ble_eq_true rfl) (Nat.le_of_ble_eq_true rfl) d_N_joiningIndex_77 hy2 h
      · replace h := h.2 c8
        refine v_aload_n cx 0 d_N_joiningIndex_30 rfl rfl ?_
        refine gf_N_15 cx d_N_joiningIndex_31 ?_
        refine v_aload_n cx 0 d_N_joiningIndex_34 rfl rfl ?_
        refine gf_N_9 cx d_N_joiningIndex_35 ?_
        refine v_iload_n cx 2 d_N_joiningIndex_38 rfl rfl ?_
        refine v_iload cx 5 d_N_joiningIndex_39 rfl ?_
        refine v_callVi0 (st := [.ref (ad 15)]) cx (s_L_roadPlace hwhich hy4 h) yk_L_roadPlace lk_N_135 zl_3 rfl rfl rfl (Nat.le_of_ble_eq_true rfl) ⟨Nat.le_of_ble_eq_true rfl, Nat.le_of_ble_eq_true rfl⟩ ⟨rfl, rfl⟩ ⟨(Nat.le_of_ble_eq_true rfl), (Nat.le_of_ble_eq_true rfl)⟩ d_N_joiningIndex_41 (fun r10 σ9 hr10 h => ?_)
        refine v_iload_n cx 1 d_N_joiningIndex_44 rfl rfl ?_
        refine v_callVi0 (st := []) cx (s_W_costBetween hr10 hplace h) yk_W_costBetween lk_N_111 zl_15 rfl rfl rfl (Nat.le_of_ble_eq_true rfl) ⟨Nat.le_of_ble_eq_true rfl, Nat.le_of_ble_eq_true rfl⟩ ⟨rfl, rfl⟩ ⟨(Nat.le_of_ble_eq_true rfl), (Nat.le_of_ble_eq_true rfl)⟩ d_N_joiningIndex_45 (fun r12 σ11 hr12 h => ?_)
        refine v_istore (lv' := [(0, .ref (ad 28)), (1, .int (zI place)), (2, .int (zI which)), (3, .int (zI y2)), (4, .int (zI y3)), (5, .int (zI y4)), (6, .int (zI r12))]) cx d_N_joiningIndex_48 (by decide) rfl rfl ?_
        refine v_iload cx 6 d_N_joiningIndex_50 rfl ?_
        refine v_iconst cx d_N_joiningIndex_52 ?_
        refine v_icmp_eq cx 70 d_N_joiningIndex_53 (by decide) hr12 ⟨by decide, by decide⟩ (fun c13 => ?_) (fun c13 => ?_)
        · replace h := h.1 c13
          refine v_iinc (lv' := [(0, .ref (ad 28)), (1, .int (zI place)), (2, .int (zI which)), (3, .int (zI y2)), (4, .int (zI y3)), (5, .int (zI (y4 + 1))), (6, .int (zI r12))]) cx 5 d_N_joiningIndex_70 rfl (by decide) rfl rfl ?_
          refine v_goto cx 17 d_N_joiningIndex_73 (by decide) ?_
          refine v_sb (lv' := [(0, .ref (ad 28)), (1, .int (zI place)), (2, .int (zI which)), (3, .int (zI y2)), (4, .int (zI y3)), (5, .int (zI (y4 + 1)))]) [0, 1, 2, 3, 4, 5] rfl ?_
          obtain ⟨hI2, hz15, hm2⟩ := h
          exact ih17 _ _ _ _ (Nat.lt_of_lt_of_le hm2 (Nat.le_of_lt_succ hmm17)) hI2 hy2 hy3 hz15
        · replace h := h.2 c13
          refine v_iload cx 6 d_N_joiningIndex_56 rfl ?_
          refine v_iload cx 4 d_N_joiningIndex_58 rfl ?_
          refine v_icmp_ge cx 70 d_N_joiningIndex_60 (by decide) hr12 hy3 (fun c16 => ?_) (fun c16 => ?_)
          · replace h := h.1 c16
            refine v_iinc (lv' := [(0, .ref (ad 28)), (1, .int (zI place)), (2, .int (zI which)), (3, .int (zI y2)), (4, .int (zI y3)), (5, .int (zI (y4 + 1))), (6, .int (zI r12))]) cx 5 d_N_joiningIndex_70 rfl (by decide) rfl rfl ?_
            refine v_goto cx 17 d_N_joiningIndex_73 (by decide) ?_
            refine v_sb (lv' := [(0, .ref (ad 28)), (1, .int (zI place)), (2, .int (zI which)), (3, .int (zI y2)), (4, .int (zI y3)), (5, .int (zI (y4 + 1)))]) [0, 1, 2, 3, 4, 5] rfl ?_
            obtain ⟨hI2, hz18, hm2⟩ := h
            exact ih17 _ _ _ _ (Nat.lt_of_lt_of_le hm2 (Nat.le_of_lt_succ hmm17)) hI2 hy2 hy3 hz18
          · replace h := h.2 c16
            refine v_iload cx 5 d_N_joiningIndex_63 rfl ?_
            refine v_istore_n (lv' := [(0, .ref (ad 28)), (1, .int (zI place)), (2, .int (zI which)), (3, .int (zI y4)), (4, .int (zI y3)), (5, .int (zI y4)), (6, .int (zI r12))]) cx d_N_joiningIndex_65 rfl (by decide) rfl rfl ?_
            refine v_iload cx 6 d_N_joiningIndex_66 rfl ?_
            refine v_istore (lv' := [(0, .ref (ad 28)), (1, .int (zI place)), (2, .int (zI which)), (3, .int (zI y4)), (4, .int (zI r12)), (5, .int (zI y4)), (6, .int (zI r12))]) cx d_N_joiningIndex_68 (by decide) rfl rfl ?_
            refine v_iinc (lv' := [(0, .ref (ad 28)), (1, .int (zI place)), (2, .int (zI which)), (3, .int (zI y4)), (4, .int (zI r12)), (5, .int (zI (y4 + 1))), (6, .int (zI r12))]) cx 5 d_N_joiningIndex_70 rfl (by decide) rfl rfl ?_
            refine v_goto cx 17 d_N_joiningIndex_73 (by decide) ?_
            refine v_sb (lv' := [(0, .ref (ad 28)), (1, .int (zI place)), (2, .int (zI which)), (3, .int (zI y4)), (4, .int (zI r12)), (5, .int (zI (y4 + 1)))]) [0, 1, 2, 3, 4, 5] rfl ?_
            obtain ⟨hI2, hz20, hm2⟩ := h
            exact ih17 _ _ _ _ (Nat.lt_of_lt_of_le hm2 (Nat.le_of_lt_succ hmm17)) hI2 hy4 hr12 hz20
  exact L17 _ _ _ _ _ (Nat.lt_succ_self _) h0 ⟨by decide, by decide⟩ ⟨by decide, by decide⟩ ⟨by decide, by decide⟩
def q_N_costWithout (step : Int) (from_ : Int) (to_ : Int) (K : Int → zS → Prop) (σ : zS) : Prop :=
  q_W_path (fun σ1 =>
    (0 ≤ step ∧ step < 649) ∧ (∀ x4 : Int, x4 = σ1 25 step → q_W_path (fun σ5 =>
        (0 ≤ step + 1 ∧ step + 1 < 649) ∧ (∀ x8 : Int, x8 = σ5 25 (step + 1) → q_L_headingTo x4 x8 (fun r10 σ9 =>
            q_W_takeWeight x4 r10 (fun r12 σ11 =>
              q_R_opposite r10 (fun r14 σ13 =>
                q_W_takeWeight x8 r14 (fun r16 σ15 =>
                  q_W_search to_ from_ (fun σ17 =>
                    q_W_giveWeight x4 r10 r12 (fun σ18 =>
                      q_R_opposite r10 (fun r20 σ19 =>
                        q_W_giveWeight x8 r20 r16 (fun σ21 =>
                          q_W_left from_ (fun r23 σ22 =>
                            K r23 σ22) σ21) σ19) σ18) σ17) σ15) σ13) σ11) σ9) σ5)) σ1)) σ
abbrev rm_N_costWithout : Room := { frames := 4, cells := 0, slots := 0, locals := 99 }
set_option maxRecDepth 20000 in
set_option maxHeartbeats 4000000 in
theorem s_N_costWithout {Ω : zO} {ad : Nat → Nat} {step : Int} {from_ : Int} {to_ : Int} {K : Int → zS → Prop} {σ : zS} (hstep : zR step) (hfrom_ : zR from_) (hto_ : zR to_) (h : q_N_costWithout step from_ to_ K σ) : zMi Ω y_N_costWithout (.code y_N_costWithout c_N_costWithout 9 (some .int)) rm_N_costWithout zLy ad [.ref (ad 28), .int (zI step), .int (zI from_), .int (zI to_)] σ K := by
  refine z_ofi (lv := [(0, .ref (ad 28)), (1, .int (zI step)), (2, .int (zI from_)), (3, .int (zI to_))]) (by decide) rfl (Nat.le_of_ble_eq_true rfl) ?_
  intro Γ Q cx rt
  unfold q_N_costWithout at h
  refine v_aload_n cx 0 d_N_costWithout_0 rfl rfl ?_
  refine gf_N_15 cx d_N_costWithout_1 ?_
  refine v_callVr0 (st := []) cx (s_W_path  h) yk_W_path lk_N_79 zl_15 rfl rfl rfl (Nat.le_of_ble_eq_true rfl) ⟨Nat.le_of_ble_eq_true rfl, Nat.le_of_ble_eq_true rfl⟩ ⟨rfl, rfl⟩ ⟨(Nat.le_of_ble_eq_true rfl), (Nat.le_of_ble_eq_true rfl)⟩ d_N_costWithout_4 (fun ra σ1 h => ?_)
  obtain ⟨rfl, h⟩ := h
  refine v_iload_n cx 1 d_N_costWithout_7 rfl rfl ?_
  obtain ⟨hb2, h⟩ := h
  refine v_iald cx zl_25 (by decide) hb2.1 hb2.2 d_N_costWithout_8 (fun hl3 => ?_)
  refine v_nm (fun x4 ex4 => ?_)
  replace h := h x4 ex4
  have hx4 : zR x4 := by rw [ex4]; exact hl3
  refine v_istore (lv' := [(0, .ref (ad 28)), (1, .int (zI step)), (2, .int (zI from_)), (3, .int (zI to_)), (4, .int (zI x4))]) cx d_N_costWithout_9 (by decide) rfl rfl ?_
  refine v_aload_n cx 0 d_N_costWithout_11 rfl rfl ?_
  refine gf_N_15 cx d_N_costWithout_12 ?_
  refine v_callVr0 (st := []) cx (s_W_path  h) yk_W_path lk_N_79 zl_15 rfl rfl rfl (Nat.le_of_ble_eq_true rfl) ⟨Nat.le_of_ble_eq_true rfl, Nat.le_of_ble_eq_true rfl⟩ ⟨rfl, rfl⟩ ⟨(Nat.le_of_ble_eq_true rfl), (Nat.le_of_ble_eq_true rfl)⟩ d_N_costWithout_15 (fun ra σ5 h => ?_)
  obtain ⟨rfl, h⟩ := h
  refine v_iload_n cx 1 d_N_costWithout_18 rfl rfl ?_
  refine v_iconst cx d_N_costWithout_19 ?_
  refine v_iadd cx d_N_costWithout_20 ?_
  obtain ⟨hb6, h⟩ := h
  refine v_iald cx zl_25 (by decide) hb6.1 hb6.2 d_N_costWithout_21 (fun hl7 => ?_)
  refine v_nm (fun x8 ex8 => ?_)
  replace h := h x8 ex8
  have hx8 : zR x8 := by rw [ex8]; exact hl7
  refine v_istore (lv' := [(0, .ref (ad 28)), (1, .int (zI step)), (2, .int (zI from_)), (3, .int (zI to_)), (4, .int (zI x4)), (5, .int (zI x8))]) cx d_N_costWithout_22 (by decide) rfl rfl ?_
  refine v_aload_n cx 0 d_N_costWithout_24 rfl rfl ?_
  refine gf_N_9 cx d_N_costWithout_25 ?_
  refine v_iload cx 4 d_N_costWithout_28 rfl ?_
  refine v_iload cx 5 d_N_costWithout_30 rfl ?_
  refine v_callVi0 (st := []) cx (s_L_headingTo hx4 hx8 h) yk_L_headingTo lk_N_92 zl_3 rfl rfl rfl (Nat.le_of_ble_eq_true rfl) ⟨Nat.le_of_ble_eq_true rfl, Nat.le_of_ble_eq_true rfl⟩ ⟨rfl, rfl⟩ ⟨(Nat.le_of_ble_eq_true rfl), (Nat.le_of_ble_eq_true rfl)⟩ d_N_costWithout_32 (fun r10 σ9 hr10 h => ?_)
  refine v_istore (lv' := [(0, .ref (ad 28)), (1, .int (zI step)), (2, .int (zI from_)), (3, .int (zI to_)), (4, .int (zI x4)), (5, .int (zI x8)), (6, .int (zI r10))]) cx d_N_costWithout_35 (by decide) rfl rfl ?_
  refine v_aload_n cx 0 d_N_costWithout_37 rfl rfl ?_
  refine gf_N_15 cx d_N_costWithout_38 ?_
  refine v_iload cx 4 d_N_costWithout_41 rfl ?_
  refine v_iload cx 6 d_N_costWithout_43 rfl ?_
  refine v_callVi0 (st := []) cx (s_W_takeWeight hx4 hr10 h) yk_W_takeWeight lk_N_141 zl_15 rfl rfl rfl (Nat.le_of_ble_eq_true rfl) ⟨Nat.le_of_ble_eq_true rfl, Nat.le_of_ble_eq_true rfl⟩ ⟨rfl, rfl⟩ ⟨(Nat.le_of_ble_eq_true rfl), (Nat.le_of_ble_eq_true rfl)⟩ d_N_costWithout_45 (fun r12 σ11 hr12 h => ?_)
  refine v_istore (lv' := [(0, .ref (ad 28)), (1, .int (zI step)), (2, .int (zI from_)), (3, .int (zI to_)), (4, .int (zI x4)), (5, .int (zI x8)), (6, .int (zI r10)), (7, .int (zI r12))]) cx d_N_costWithout_48 (by decide) rfl rfl ?_
  refine v_aload_n cx 0 d_N_costWithout_50 rfl rfl ?_
  refine gf_N_15 cx d_N_costWithout_51 ?_
  refine v_iload cx 5 d_N_costWithout_54 rfl ?_
  refine v_iload cx 6 d_N_costWithout_56 rfl ?_
  refine v_callNi0 (st := [.int (zI x8), .ref (ad 15)]) cx (s_R_opposite hr10 h) yk_R_opposite ln_N_144 rfl rfl (Nat.le_of_ble_eq_true rfl) ⟨Nat.le_of_ble_eq_true rfl, Nat.le_of_ble_eq_true rfl⟩ ⟨rfl, rfl⟩ ⟨(Nat.le_of_ble_eq_true rfl), (Nat.le_of_ble_eq_true rfl)⟩ d_N_costWithout_58 (fun r14 σ13 hr14 h => ?_)
  refine v_callVi0 (st := []) cx (s_W_takeWeight hx8 hr14 h) yk_W_takeWeight lk_N_141 zl_15 rfl rfl rfl (Nat.le_of_ble_eq_true rfl) ⟨Nat.le_of_ble_eq_true rfl, Nat.le_of_ble_eq_true rfl⟩ ⟨rfl, rfl⟩ ⟨(Nat.le_of_ble_eq_true rfl), (Nat.le_of_ble_eq_true rfl)⟩ d_N_costWithout_61 (fun r16 σ15 hr16 h => ?_)
  refine v_istore (lv' := [(0, .ref (ad 28)), (1, .int (zI step)), (2, .int (zI from_)), (3, .int (zI to_)), (4, .int (zI x4)), (5, .int (zI x8)), (6, .int (zI r10)), (7, .int (zI r12)), (8, .int (zI r16))]) cx d_N_costWithout_64 (by decide) rfl rfl ?_
  refine v_aload_n cx 0 d_N_costWithout_66 rfl rfl ?_
  refine gf_N_15 cx d_N_costWithout_67 ?_
  refine v_iload_n cx 3 d_N_costWithout_70 rfl rfl ?_
  refine v_iload_n cx 2 d_N_costWithout_71 rfl rfl ?_
  refine v_callVv0 (st := []) cx (s_W_search hto_ hfrom_ h) yk_W_search lk_N_147 zl_15 rfl rfl rfl (Nat.le_of_ble_eq_true rfl) ⟨Nat.le_of_ble_eq_true rfl, Nat.le_of_ble_eq_true rfl⟩ ⟨rfl, rfl⟩ ⟨(Nat.le_of_ble_eq_true rfl), (Nat.le_of_ble_eq_true rfl)⟩ d_N_costWithout_72 (fun σ17 h => ?_)
  refine v_aload_n cx 0 d_N_costWithout_75 rfl rfl ?_
  refine gf_N_15 cx d_N_costWithout_76 ?_
  refine v_iload cx 4 d_N_costWithout_79 rfl ?_
  refine v_iload cx 6 d_N_costWithout_81 rfl ?_
  refine v_iload cx 7 d_N_costWithout_83 rfl ?_
  refine v_callVv0 (st := []) cx (s_W_giveWeight hx4 hr10 hr12 h) yk_W_giveWeight lk_N_150 zl_15 rfl rfl rfl (Nat.le_of_ble_eq_true rfl) ⟨Nat.le_of_ble_eq_true rfl, Nat.le_of_ble_eq_true rfl⟩ ⟨rfl, rfl⟩ ⟨(Nat.le_of_ble_eq_true rfl), (Nat.le_of_ble_eq_true rfl)⟩ d_N_costWithout_85 (fun σ18 h => ?_)
  refine v_aload_n cx 0 d_N_costWithout_88 rfl rfl ?_
  refine gf_N_15 cx d_N_costWithout_89 ?_
  refine v_iload cx 5 d_N_costWithout_92 rfl ?_
  refine v_iload cx 6 d_N_costWithout_94 rfl ?_
  refine v_callNi0 (st := [.int (zI x8), .ref (ad 15)]) cx (s_R_opposite hr10 h) yk_R_opposite ln_N_144 rfl rfl (Nat.le_of_ble_eq_true rfl) ⟨Nat.le_of_ble_eq_true rfl, Nat.le_of_ble_eq_true rfl⟩ ⟨rfl, rfl⟩ ⟨(Nat.le_of_ble_eq_true rfl), (Nat.le_of_ble_eq_true rfl)⟩ d_N_costWithout_96 (fun r20 σ19 hr20 h => ?_)
  refine v_iload cx 8 d_N_costWithout_99 rfl ?_
  refine v_callVv0 (st := []) cx (s_W_giveWeight hx8 hr20 hr16 h) yk_W_giveWeight lk_N_150 zl_15 rfl rfl rfl (Nat.le_of_ble_eq_true rfl) ⟨Nat.le_of_ble_eq_true rfl, Nat.le_of_ble_eq_true rfl⟩ ⟨rfl, rfl⟩ ⟨(Nat.le_of_ble_eq_true rfl), (Nat.le_of_ble_eq_true rfl)⟩ d_N_costWithout_101 (fun σ21 h => ?_)
  refine v_aload_n cx 0 d_N_costWithout_104 rfl rfl ?_
  refine gf_N_15 cx d_N_costWithout_105 ?_
  refine v_iload_n cx 2 d_N_costWithout_108 rfl rfl ?_
  refine v_callVi0 (st := []) cx (s_W_left hfrom_ h) yk_W_left lk_N_154 zl_15 rfl rfl rfl (Nat.le_of_ble_eq_true rfl) ⟨Nat.le_of_ble_eq_true rfl, Nat.le_of_ble_eq_true rfl⟩ ⟨rfl, rfl⟩ ⟨(Nat.le_of_ble_eq_true rfl), (Nat.le_of_ble_eq_true rfl)⟩ d_N_costWithout_109 (fun r23 σ22 hr23 h => ?_)
  exact rt _ _ _ _ _ _ (Nat.le_of_ble_eq_true rfl) (Nat.le_of_ble_eq_true rfl) d_N_costWithout_112 hr23 h
def q_N_dearestStep (from_ : Int) (to_ : Int) (K : Int → zS → Prop) (σ : zS) : Prop :=
  ∀ σ1 : zS, σ1 = zU σ 28 9 (-1) → q_W_find from_ to_ 0 (fun r3 σ2 =>
    (r3 ≠ (-1) →
      q_W_pathSize (fun r6 σ5 =>
        ∀ x7 : Int, x7 = r6 - 1 → ∃ (I37 : Int → Int → zS → Prop) (μ37 : Int → Int → zS → Nat), (I37 (-1) 0 σ5) ∧ ∀ (y8 y9 : Int) (σ10 : zS), I37 y8 y9 σ10 → zR y8 → zR y9 → 
        zR x7 ∧ ((x7 ≤ y9 →
            K y8 σ10) ∧ (y9 < x7 →
            q_N_costWithout y9 from_ to_ (fun r14 σ13 =>
              (r14 ≠ (-1) →
                (r14 ≤ (σ13 28 9) →
                  I37 y8 (y9 + 1) σ13 ∧ zR (y9 + 1) ∧ μ37 y8 (y9 + 1) σ13 < μ37 y8 y9 σ10) ∧ ((σ13 28 9) < r14 →
                  ∀ σ20 : zS, σ20 = zU σ13 28 9 r14 → I37 y9 (y9 + 1) σ20 ∧ zR (y9 + 1) ∧ μ37 y9 (y9 + 1) σ20 < μ37 y8 y9 σ10)) ∧ (r14 = (-1) →
                ∀ σ23 : zS, σ23 = zU σ13 28 9 (-1) → K y9 σ23)) σ10))) σ2) ∧ (r3 = (-1) →
      K (-1) σ2)) σ1
abbrev rm_N_dearestStep : Room := { frames := 5, cells := 0, slots := 0, locals := 127 }
set_option maxRecDepth 20000 in
set_option maxHeartbeats 4000000 in
theorem s_N_dearestStep {Ω : zO} {ad : Nat → Nat} {from_ : Int} {to_ : Int} {K : Int → zS → Prop} {σ : zS} (hfrom_ : zR from_) (hto_ : zR to_) (h : q_N_dearestStep from_ to_ K σ) : zMi Ω y_N_dearestStep (.code y_N_dearestStep c_N_dearestStep 7 (some .int)) rm_N_dearestStep zLy ad [.ref (ad 28), .int (zI from_), .int (zI to_)] σ K := by
  refine z_ofi (lv := [(0, .ref (ad 28)), (1, .int (zI from_)), (2, .int (zI to_))]) (by decide) rfl (Nat.le_of_ble_eq_true rfl) ?_
  intro Γ Q cx rt
  unfold q_N_dearestStep at h
  refine v_aload_n cx 0 d_N_dearestStep_0 rfl rfl ?_
  refine v_iconst cx d_N_dearestStep_1 ?_
  refine pf_N_42 cx ⟨by decide, by decide⟩ d_N_dearestStep_2 ?_
  refine v_ns (fun σ1 eσ1 => ?_)
  replace h := h σ1 eσ1
  refine v_aload_n cx 0 d_N_dearestStep_5 rfl rfl ?_
  refine gf_N_15 cx d_N_dearestStep_6 ?_
  refine v_iload_n cx 1 d_N_dearestStep_9 rfl rfl ?_
  refine v_iload_n cx 2 d_N_dearestStep_10 rfl rfl ?_
  refine v_iconst cx d_N_dearestStep_11 ?_
  refine v_callVi0 (st := []) cx (s_W_find hfrom_ hto_ ⟨by decide, by decide⟩ h) yk_W_find lk_N_69 zl_15 rfl rfl rfl (Nat.le_of_ble_eq_true rfl) ⟨Nat.le_of_ble_eq_true rfl, Nat.le_of_ble_eq_true rfl⟩ ⟨rfl, rfl⟩ ⟨(Nat.le_of_ble_eq_true rfl), (Nat.le_of_ble_eq_true rfl)⟩ d_N_dearestStep_12 (fun r3 σ2 hr3 h => ?_)
  refine v_iconst cx d_N_dearestStep_15 ?_
  refine v_icmp_ne cx 21 d_N_dearestStep_16 (by decide) hr3 ⟨by decide, by decide⟩ (fun c4 => ?_) (fun c4 => ?_)
  · replace h := h.1 c4
    refine v_iconst cx d_N_dearestStep_21 ?_
    refine v_istore_n (lv' := [(0, .ref (ad 28)), (1, .int (zI from_)), (2, .int (zI to_)), (3, .int (zI (-1)))]) cx d_N_dearestStep_22 rfl (by decide) rfl rfl ?_
    refine v_aload_n cx 0 d_N_dearestStep_23 rfl rfl ?_
    refine gf_N_15 cx d_N_dearestStep_24 ?_
    refine v_callVi0 (st := []) cx (s_W_pathSize  h) yk_W_pathSize lk_N_89 zl_15 rfl rfl rfl (Nat.le_of_ble_eq_true rfl) ⟨Nat.le_of_ble_eq_true rfl, Nat.le_of_ble_eq_true rfl⟩ ⟨rfl, rfl⟩ ⟨(Nat.le_of_ble_eq_true rfl), (Nat.le_of_ble_eq_true rfl)⟩ d_N_dearestStep_27 (fun r6 σ5 hr6 h => ?_)
    refine v_iconst cx d_N_dearestStep_30 ?_
    refine v_isub cx d_N_dearestStep_31 ?_
    refine v_nm (fun x7 ex7 => ?_)
    replace h := h x7 ex7
    refine v_istore (lv' := [(0, .ref (ad 28)), (1, .int (zI from_)), (2, .int (zI to_)), (3, .int (zI (-1))), (4, .int (zI x7))]) cx d_N_dearestStep_32 (by decide) rfl rfl ?_
    refine v_iconst cx d_N_dearestStep_34 ?_
    refine v_istore (lv' := [(0, .ref (ad 28)), (1, .int (zI from_)), (2, .int (zI to_)), (3, .int (zI (-1))), (4, .int (zI x7)), (5, .int (zI 0))]) cx d_N_dearestStep_35 (by decide) rfl rfl ?_
    obtain ⟨I37, μ37, h0, h⟩ := h
    have L37 : ∀ (N37 : Nat) (y8 y9 : Int) (σ10 : zS), μ37 y8 y9 σ10 < N37 → I37 y8 y9 σ10 → zR y8 → zR y9 → zV Ω Γ rm_N_dearestStep 7 Q 0 0 zLy ad σ10 37 [(0, .ref (ad 28)), (1, .int (zI from_)), (2, .int (zI to_)), (3, .int (zI y8)), (4, .int (zI x7)), (5, .int (zI y9))] [] := by
      intro N37
      induction N37 with
      | zero => intro y8 y9 σ10 hm; exact absurd hm (Nat.not_lt_zero _)
      | succ N37 ih37 =>
        intro y8 y9 σ10 hmm37 hI hy8 hy9
        replace h := h y8 y9 σ10 hI hy8 hy9
        refine v_iload cx 5 d_N_dearestStep_37 rfl ?_
        refine v_iload cx 4 d_N_dearestStep_39 rfl ?_
        obtain ⟨hr11, h⟩ := h
        refine v_icmp_ge cx 92 d_N_dearestStep_41 (by decide) hy9 hr11 (fun c12 => ?_) (fun c12 => ?_)
        · replace h := h.1 c12
          refine v_iload_n cx 3 d_N_dearestStep_92 rfl rfl ?_
          exact rt _ _ _ _ _ _ (Nat.le_of_ble_eq_true rfl) (Nat.le_of_ble_eq_true rfl) d_N_dearestStep_93 hy8 h
        · replace h := h.2 c12
          refine v_aload_n cx 0 d_N_dearestStep_44 rfl rfl ?_
          refine v_iload cx 5 d_N_dearestStep_45 rfl ?_
          refine v_iload_n cx 1 d_N_dearestStep_47 rfl rfl ?_
          refine v_iload_n cx 2 d_N_dearestStep_48 rfl rfl ?_
          refine v_callVi0 (st := []) cx (s_N_costWithout hy9 hfrom_ hto_ h) yk_N_costWithout lk_N_138 zl_28 rfl rfl rfl (Nat.le_of_ble_eq_true rfl) ⟨Nat.le_of_ble_eq_true rfl, Nat.le_of_ble_eq_true rfl⟩ ⟨rfl, rfl⟩ ⟨(Nat.le_of_ble_eq_true rfl), (Nat.le_of_ble_eq_true rfl)⟩ d_N_dearestStep_49 (fun r14 σ13 hr14 h => ?_)
          refine v_istore (lv' := [(0, .ref (ad 28)), (1, .int (zI from_)), (2, .int (zI to_)), (3, .int (zI y8)), (4, .int (zI x7)), (5, .int (zI y9)), (6, .int (zI r14))]) cx d_N_dearestStep_52 (by decide) rfl rfl ?_
          refine v_iload cx 6 d_N_dearestStep_54 rfl ?_
          refine v_iconst cx d_N_dearestStep_56 ?_
          refine v_icmp_ne cx 68 d_N_dearestStep_57 (by decide) hr14 ⟨by decide, by decide⟩ (fun c15 => ?_) (fun c15 => ?_)
          · replace h := h.1 c15
            refine v_iload cx 6 d_N_dearestStep_68 rfl ?_
            refine v_aload_n cx 0 d_N_dearestStep_70 rfl rfl ?_
            refine gf_N_42 cx d_N_dearestStep_71 (fun hl16 => ?_)
            refine v_icmp_le cx 86 d_N_dearestStep_74 (by decide) hr14 hl16 (fun c17 => ?_) (fun c17 => ?_)
            · replace h := h.1 c17
              refine v_iinc (lv' := [(0, .ref (ad 28)), (1, .int (zI from_)), (2, .int (zI to_)), (3, .int (zI y8)), (4, .int (zI x7)), (5, .int (zI (y9 + 1))), (6, .int (zI r14))]) cx 5 d_N_dearestStep_86 rfl (by decide) rfl rfl ?_
              refine v_goto cx 37 d_N_dearestStep_89 (by decide) ?_
              refine v_sb (lv' := [(0, .ref (ad 28)), (1, .int (zI from_)), (2, .int (zI to_)), (3, .int (zI y8)), (4, .int (zI x7)), (5, .int (zI (y9 + 1)))]) [0, 1, 2, 3, 4, 5] rfl ?_
              obtain ⟨hI2, hz19, hm2⟩ := h
              exact ih37 _ _ _ (Nat.lt_of_lt_of_le hm2 (Nat.le_of_lt_succ hmm37)) hI2 hy8 hz19
            · replace h := h.2 c17
              refine v_iload cx 5 d_N_dearestStep_77 rfl ?_
              refine v_istore_n (lv' := [(0, .ref (ad 28)), (1, .int (zI from_)), (2, .int (zI to_)), (3, .int (zI y9)), (4, .int (zI x7)), (5, .int (zI y9)), (6, .int (zI r14))]) cx d_N_dearestStep_79 rfl (by decide) rfl rfl ?_
              refine v_aload_n cx 0 d_N_dearestStep_80 rfl rfl ?_
              refine v_iload cx 6 d_N_dearestStep_81 rfl ?_
              refine pf_N_42 cx hr14 d_N_dearestStep_83 ?_
              refine v_ns (fun σ20 eσ20 => ?_)
              replace h := h σ20 eσ20
              refine v_iinc (lv' := [(0, .ref (ad 28)), (1, .int (zI from_)), (2, .int (zI to_)), (3, .int (zI y9)), (4, .int (zI x7)), (5, .int (zI (y9 + 1))), (6, .int (zI r14))]) cx 5 d_N_dearestStep_86 rfl (by decide) rfl rfl ?_
              refine v_goto cx 37 d_N_dearestStep_89 (by decide) ?_
              refine v_sb (lv' := [(0, .ref (ad 28)), (1, .int (zI from_)), (2, .int (zI to_)), (3, .int (zI y9)), (4, .int (zI x7)), (5, .int (zI (y9 + 1)))]) [0, 1, 2, 3, 4, 5] rfl ?_
              obtain ⟨hI2, hz22, hm2⟩ := h
              exact ih37 _ _ _ (Nat.lt_of_lt_of_le hm2 (Nat.le_of_lt_succ hmm37)) hI2 hy9 hz22
          · replace h := h.2 c15
            refine v_aload_n cx 0 d_N_dearestStep_60 rfl rfl ?_
            refine v_iconst cx d_N_dearestStep_61 ?_
            refine pf_N_42 cx ⟨by decide, by decide⟩ d_N_dearestStep_62 ?_
            refine v_ns (fun σ23 eσ23 => ?_)
            replace h := h σ23 eσ23
            refine v_iload cx 5 d_N_dearestStep_65 rfl ?_
            exact rt _ _ _ _ _ _ (Nat.le_of_ble_eq_true rfl) (Nat.le_of_ble_eq_true rfl) d_N_dearestStep_67 hy9 h
    exact L37 _ _ _ _ (Nat.lt_succ_self _) h0 ⟨by decide, by decide⟩ ⟨by decide, by decide⟩
  · replace h := h.2 c4
    refine v_iconst cx d_N_dearestStep_19 ?_
    exact rt _ _ _ _ _ _ (Nat.le_of_ble_eq_true rfl) (Nat.le_of_ble_eq_true rfl) d_N_dearestStep_20 ⟨by decide, by decide⟩ h
def q_N_dearestCost (K : Int → zS → Prop) (σ : zS) : Prop :=
  K (σ 28 9) σ
abbrev rm_N_dearestCost : Room := { frames := 0, cells := 0, slots := 0, locals := 0 }
set_option maxRecDepth 20000 in
set_option maxHeartbeats 4000000 in
theorem s_N_dearestCost {Ω : zO} {ad : Nat → Nat} {K : Int → zS → Prop} {σ : zS}  (h : q_N_dearestCost K σ) : zMi Ω y_N_dearestCost (.code y_N_dearestCost c_N_dearestCost 1 (some .int)) rm_N_dearestCost zLy ad [.ref (ad 28)] σ K := by
  refine z_ofi (lv := [(0, .ref (ad 28))]) (by decide) rfl (Nat.le_of_ble_eq_true rfl) ?_
  intro Γ Q cx rt
  unfold q_N_dearestCost at h
  refine v_aload_n cx 0 d_N_dearestCost_0 rfl rfl ?_
  refine gf_N_42 cx d_N_dearestCost_1 (fun hl1 => ?_)
  exact rt _ _ _ _ _ _ (Nat.le_of_ble_eq_true rfl) (Nat.le_of_ble_eq_true rfl) d_N_dearestCost_4 hl1 h
def q_G_cell (k_ : Int) (offset : Int) (sum : Int) (K : Int → zS → Prop) (σ : zS) : Prop :=
  zR (((((((zAnd k_ 1) * 7) + offset) + 3) * 151) + sum) + 75) ∧ (K (((((((zAnd k_ 1) * 7) + offset) + 3) * 151) + sum) + 75) σ)
abbrev rm_G_cell : Room := { frames := 0, cells := 0, slots := 0, locals := 0 }
set_option maxRecDepth 20000 in
set_option maxHeartbeats 4000000 in
theorem s_G_cell {Ω : zO} {ad : Nat → Nat} {k_ : Int} {offset : Int} {sum : Int} {K : Int → zS → Prop} {σ : zS} (hk_ : zR k_) (hoffset : zR offset) (hsum : zR sum) (h : q_G_cell k_ offset sum K σ) : zMi Ω y_G_cell (.code y_G_cell c_G_cell 3 (some .int)) rm_G_cell zLy ad [.int (zI k_), .int (zI offset), .int (zI sum)] σ K := by
  refine z_ofi (lv := [(0, .int (zI k_)), (1, .int (zI offset)), (2, .int (zI sum))]) (by decide) rfl (Nat.le_of_ble_eq_true rfl) ?_
  intro Γ Q cx rt
  unfold q_G_cell at h
  refine v_iload_n cx 0 d_G_cell_0 rfl rfl ?_
  refine v_iconst cx d_G_cell_1 ?_
  refine v_iand cx d_G_cell_2 ?_
  refine v_bipush cx (by decide) d_G_cell_3 ?_
  refine v_imul cx d_G_cell_5 ?_
  refine v_iload_n cx 1 d_G_cell_6 rfl rfl ?_
  refine v_iadd cx d_G_cell_7 ?_
  refine v_iconst cx d_G_cell_8 ?_
  refine v_iadd cx d_G_cell_9 ?_
  refine v_sipush cx (by decide) d_G_cell_10 ?_
  refine v_imul cx d_G_cell_13 ?_
  refine v_iload_n cx 2 d_G_cell_14 rfl rfl ?_
  refine v_iadd cx d_G_cell_15 ?_
  refine v_bipush cx (by decide) d_G_cell_16 ?_
  refine v_iadd cx d_G_cell_18 ?_
  obtain ⟨hr1, h⟩ := h
  exact rt _ _ _ _ _ _ (Nat.le_of_ble_eq_true rfl) (Nat.le_of_ble_eq_true rfl) d_G_cell_19 hr1 h
def q_G_bestNext (k_ : Int) (offset : Int) (sum : Int) (K : Int → zS → Prop) (σ : zS) : Prop :=
  zR (-(σ 35 4)) ∧ (zR ((offset - (σ 35 5)) - (σ 35 6)) ∧ (zR ((-(σ 35 7)) - sum) ∧ (∀ x10 : Int, x10 = max (max (-(σ 35 4)) ((offset - (σ 35 5)) - (σ 35 6))) ((-(σ 35 7)) - sum) → zR ((offset - (σ 35 5)) + (σ 35 6)) ∧ (zR ((σ 35 7) - sum) ∧ (∀ x19 : Int, x19 = min (min (σ 35 4) ((offset - (σ 35 5)) + (σ 35 6))) ((σ 35 7) - sum) → zR (k_ + 1) ∧ (zR (sum + x10) ∧ (q_G_cell (k_ + 1) x10 (sum + x10) (fun r23 σ22 =>
                  ∃ (I85 : Int → Int → Int → Int → Prop) (μ85 : Int → Int → Int → Int → Nat), (I85 4 1000000000 r23 x10) ∧ ∀ (y24 y25 y26 y27 : Int), I85 y24 y25 y26 y27 → zR y24 → zR y25 → zR y26 → zR y27 → 
                  (x19 < y27 →
                    K y24 σ22) ∧ (y27 ≤ x19 →
                    (0 ≤ y26 ∧ y26 < 2114) ∧ ((y25 ≤ (σ22 36 y26) →
                        I85 y24 y25 (y26 + 152) (y27 + 1) ∧ zR (y26 + 152) ∧ zR (y27 + 1) ∧ μ85 y24 y25 (y26 + 152) (y27 + 1) < μ85 y24 y25 y26 y27) ∧ ((σ22 36 y26) < y25 →
                        ∀ x37 : Int, x37 = σ22 36 y26 → I85 y27 x37 (y26 + 152) (y27 + 1) ∧ zR (y26 + 152) ∧ zR (y27 + 1) ∧ μ85 y27 x37 (y26 + 152) (y27 + 1) < μ85 y24 y25 y26 y27)))) σ)))))))
abbrev rm_G_bestNext : Room := { frames := 1, cells := 0, slots := 0, locals := 22 }
set_option maxRecDepth 20000 in
set_option maxHeartbeats 4000000 in
theorem s_G_bestNext {Ω : zO} {ad : Nat → Nat} {k_ : Int} {offset : Int} {sum : Int} {K : Int → zS → Prop} {σ : zS} (hk_ : zR k_) (hoffset : zR offset) (hsum : zR sum) (h : q_G_bestNext k_ offset sum K σ) : zMi Ω y_G_bestNext (.code y_G_bestNext c_G_bestNext 10 (some .int)) rm_G_bestNext zLy ad [.ref (ad 35), .int (zI k_), .int (zI offset), .int (zI sum)] σ K := by
  refine z_ofi (lv := [(0, .ref (ad 35)), (1, .int (zI k_)), (2, .int (zI offset)), (3, .int (zI sum))]) (by decide) rfl (Nat.le_of_ble_eq_true rfl) ?_
  intro Γ Q cx rt
  unfold q_G_bestNext at h
  refine v_aload_n cx 0 d_G_bestNext_0 rfl rfl ?_
  refine gf_G_36 cx d_G_bestNext_1 (fun hl1 => ?_)
  refine v_ineg cx d_G_bestNext_4 ?_
  refine v_iload_n cx 2 d_G_bestNext_5 rfl rfl ?_
  refine v_aload_n cx 0 d_G_bestNext_6 rfl rfl ?_
  refine gf_G_72 cx d_G_bestNext_7 (fun hl2 => ?_)
  refine v_isub cx d_G_bestNext_10 ?_
  refine v_aload_n cx 0 d_G_bestNext_11 rfl rfl ?_
  refine gf_G_81 cx d_G_bestNext_12 (fun hl3 => ?_)
  refine v_isub cx d_G_bestNext_15 ?_
  obtain ⟨hr4, h⟩ := h
  obtain ⟨hr5, h⟩ := h
  refine v_mmax cx lk_G_87 zmath_max.1 zmath_max.2.1 zmath_max.2.2 hr4 hr5 (Nat.le_of_ble_eq_true rfl) (Nat.le_of_ble_eq_true rfl) (Nat.le_of_ble_eq_true rfl) (Nat.le_of_ble_eq_true rfl) d_G_bestNext_16 (fun hl6 => ?_)
  refine v_aload_n cx 0 d_G_bestNext_19 rfl rfl ?_
  refine gf_G_84 cx d_G_bestNext_20 (fun hl7 => ?_)
  refine v_ineg cx d_G_bestNext_23 ?_
  refine v_iload_n cx 3 d_G_bestNext_24 rfl rfl ?_
  refine v_isub cx d_G_bestNext_25 ?_
  obtain ⟨hr8, h⟩ := h
  refine v_mmax cx lk_G_87 zmath_max.1 zmath_max.2.1 zmath_max.2.2 hl6 hr8 (Nat.le_of_ble_eq_true rfl) (Nat.le_of_ble_eq_true rfl) (Nat.le_of_ble_eq_true rfl) (Nat.le_of_ble_eq_true rfl) d_G_bestNext_26 (fun hl9 => ?_)
  refine v_nm (fun x10 ex10 => ?_)
  replace h := h x10 ex10
  have hx10 : zR x10 := by rw [ex10]; exact hl9
  refine v_istore (lv' := [(0, .ref (ad 35)), (1, .int (zI k_)), (2, .int (zI offset)), (3, .int (zI sum)), (4, .int (zI x10))]) cx d_G_bestNext_29 (by decide) rfl rfl ?_
  refine v_aload_n cx 0 d_G_bestNext_31 rfl rfl ?_
  refine gf_G_36 cx d_G_bestNext_32 (fun hl11 => ?_)
  refine v_iload_n cx 2 d_G_bestNext_35 rfl rfl ?_
  refine v_aload_n cx 0 d_G_bestNext_36 rfl rfl ?_
  refine gf_G_72 cx d_G_bestNext_37 (fun hl12 => ?_)
  refine v_isub cx d_G_bestNext_40 ?_
  refine v_aload_n cx 0 d_G_bestNext_41 rfl rfl ?_
  refine gf_G_81 cx d_G_bestNext_42 (fun hl13 => ?_)
  refine v_iadd cx d_G_bestNext_45 ?_
  obtain ⟨hr14, h⟩ := h
  refine v_mmin cx lk_G_92 zmath_min.1 zmath_min.2.1 zmath_min.2.2 hl11 hr14 (Nat.le_of_ble_eq_true rfl) (Nat.le_of_ble_eq_true rfl) (Nat.le_of_ble_eq_true rfl) (Nat.le_of_ble_eq_true rfl) d_G_bestNext_46 (fun hl15 => ?_)
  refine v_aload_n cx 0 d_G_bestNext_49 rfl rfl ?_
  refine gf_G_84 cx d_G_bestNext_50 (fun hl16 => ?_)
  refine v_iload_n cx 3 d_G_bestNext_53 rfl rfl ?_
  refine v_isub cx d_G_bestNext_54 ?_
  obtain ⟨hr17, h⟩ := h
  refine v_mmin cx lk_G_92 zmath_min.1 zmath_min.2.1 zmath_min.2.2 hl15 hr17 (Nat.le_of_ble_eq_true rfl) (Nat.le_of_ble_eq_true rfl) (Nat.le_of_ble_eq_true rfl) (Nat.le_of_ble_eq_true rfl) d_G_bestNext_55 (fun hl18 => ?_)
  refine v_nm (fun x19 ex19 => ?_)
  replace h := h x19 ex19
  have hx19 : zR x19 := by rw [ex19]; exact hl18
  refine v_istore (lv' := [(0, .ref (ad 35)), (1, .int (zI k_)), (2, .int (zI offset)), (3, .int (zI sum)), (4, .int (zI x10)), (5, .int (zI x19))]) cx d_G_bestNext_58 (by decide) rfl rfl ?_
  refine v_iconst cx d_G_bestNext_60 ?_
  refine v_istore (lv' := [(0, .ref (ad 35)), (1, .int (zI k_)), (2, .int (zI offset)), (3, .int (zI sum)), (4, .int (zI x10)), (5, .int (zI x19)), (6, .int (zI 4))]) cx d_G_bestNext_61 (by decide) rfl rfl ?_
  refine v_ldc cx ct_G_46 d_G_bestNext_63 ?_
  refine v_istore (lv' := [(0, .ref (ad 35)), (1, .int (zI k_)), (2, .int (zI offset)), (3, .int (zI sum)), (4, .int (zI x10)), (5, .int (zI x19)), (6, .int (zI 4)), (7, .int (zI 1000000000))]) cx d_G_bestNext_65 (by decide) rfl rfl ?_
  refine v_iload_n cx 1 d_G_bestNext_67 rfl rfl ?_
  refine v_iconst cx d_G_bestNext_68 ?_
  refine v_iadd cx d_G_bestNext_69 ?_
  refine v_iload cx 4 d_G_bestNext_70 rfl ?_
  refine v_iload_n cx 3 d_G_bestNext_72 rfl rfl ?_
  refine v_iload cx 4 d_G_bestNext_73 rfl ?_
  refine v_iadd cx d_G_bestNext_75 ?_
  obtain ⟨hr20, h⟩ := h
  obtain ⟨hr21, h⟩ := h
  refine v_callSi0 (st := []) cx (s_G_cell hr20 hx10 hr21 h) yk_G_cell lk_G_47 rfl rfl (Nat.le_of_ble_eq_true rfl) ⟨Nat.le_of_ble_eq_true rfl, Nat.le_of_ble_eq_true rfl⟩ ⟨rfl, rfl⟩ ⟨(Nat.le_of_ble_eq_true rfl), (Nat.le_of_ble_eq_true rfl)⟩ d_G_bestNext_76 (fun r23 σ22 hr23 h => ?_)
  refine v_istore (lv' := [(0, .ref (ad 35)), (1, .int (zI k_)), (2, .int (zI offset)), (3, .int (zI sum)), (4, .int (zI x10)), (5, .int (zI x19)), (6, .int (zI 4)), (7, .int (zI 1000000000)), (8, .int (zI r23))]) cx d_G_bestNext_79 (by decide) rfl rfl ?_
  refine v_iload cx 4 d_G_bestNext_81 rfl ?_
  refine v_istore (lv' := [(0, .ref (ad 35)), (1, .int (zI k_)), (2, .int (zI offset)), (3, .int (zI sum)), (4, .int (zI x10)), (5, .int (zI x19)), (6, .int (zI 4)), (7, .int (zI 1000000000)), (8, .int (zI r23)), (9, .int (zI x10))]) cx d_G_bestNext_83 (by decide) rfl rfl ?_
  refine v_sb (lv' := [(0, .ref (ad 35)), (5, .int (zI x19)), (6, .int (zI 4)), (7, .int (zI 1000000000)), (8, .int (zI r23)), (9, .int (zI x10))]) [0, 5, 6, 7, 8, 9] rfl ?_
  obtain ⟨I85, μ85, h0, h⟩ := h
  have L85 : ∀ (N85 : Nat) (y24 y25 y26 y27 : Int), μ85 y24 y25 y26 y27 < N85 → I85 y24 y25 y26 y27 → zR y24 → zR y25 → zR y26 → zR y27 → zV Ω Γ rm_G_bestNext 10 Q 0 0 zLy ad σ22 85 [(0, .ref (ad 35)), (5, .int (zI x19)), (6, .int (zI y24)), (7, .int (zI y25)), (8, .int (zI y26)), (9, .int (zI y27))] [] := by
    intro N85
    induction N85 with
    | zero => intro y24 y25 y26 y27 hm; exact absurd hm (Nat.not_lt_zero _)
    | succ N85 ih85 =>
      intro y24 y25 y26 y27 hmm85 hI hy24 hy25 hy26 hy27
      replace h := h y24 y25 y26 y27 hI hy24 hy25 hy26 hy27
      refine v_iload cx 5 d_G_bestNext_85 rfl ?_
      refine v_iload cx 1 d_G_bestNext_87 rfl ?_
      refine v_icmp_gt cx 129 d_G_bestNext_89 (by decide) hy27 hx19 (fun c28 => ?_) (fun c28 => ?_)
      · replace h := h.1 c28
        refine v_iload cx 2 d_G_bestNext_129 rfl ?_
        exact rt _ _ _ _ _ _ (Nat.le_of_ble_eq_true rfl) (Nat.le_of_ble_eq_true rfl) d_G_bestNext_131 hy24 h
      · replace h := h.2 c28
        refine v_aload_n cx 0 d_G_bestNext_92 rfl rfl ?_
        refine gf_G_15 cx d_G_bestNext_93 ?_
        refine v_iload cx 4 d_G_bestNext_96 rfl ?_
        obtain ⟨hb29, h⟩ := h
        refine v_iald cx zl_36 (by decide) hb29.1 hb29.2 d_G_bestNext_98 (fun hl30 => ?_)
        refine v_iload cx 3 d_G_bestNext_99 rfl ?_
        refine v_icmp_ge cx 117 d_G_bestNext_101 (by decide) hl30 hy25 (fun c31 => ?_) (fun c31 => ?_)
        · replace h := h.1 c31
          refine v_iincw (lv' := [(0, .ref (ad 35)), (5, .int (zI x19)), (6, .int (zI y24)), (7, .int (zI y25)), (8, .int (zI (y26 + 152))), (9, .int (zI y27))]) cx 4 d_G_bestNext_117 rfl (by decide) rfl rfl ?_
          refine v_iinc (lv' := [(0, .ref (ad 35)), (5, .int (zI x19)), (6, .int (zI y24)), (7, .int (zI y25)), (8, .int (zI (y26 + 152))), (9, .int (zI (y27 + 1)))]) cx 5 d_G_bestNext_123 rfl (by decide) rfl rfl ?_
          refine v_goto cx 85 d_G_bestNext_126 (by decide) ?_
          obtain ⟨hI2, hz34, hz35, hm2⟩ := h
          exact ih85 _ _ _ _ (Nat.lt_of_lt_of_le hm2 (Nat.le_of_lt_succ hmm85)) hI2 hy24 hy25 hz34 hz35
        · replace h := h.2 c31
          refine v_iload cx 5 d_G_bestNext_104 rfl ?_
          refine v_istore (lv' := [(0, .ref (ad 35)), (5, .int (zI x19)), (6, .int (zI y27)), (7, .int (zI y25)), (8, .int (zI y26)), (9, .int (zI y27))]) cx d_G_bestNext_106 (by decide) rfl rfl ?_
          refine v_aload_n cx 0 d_G_bestNext_108 rfl rfl ?_
          refine gf_G_15 cx d_G_bestNext_109 ?_
          refine v_iload cx 4 d_G_bestNext_112 rfl ?_
          refine v_iald cx zl_36 (by decide) hb29.1 hb29.2 d_G_bestNext_114 (fun hl36 => ?_)
          refine v_nm (fun x37 ex37 => ?_)
          replace h := h x37 ex37
          have hx37 : zR x37 := by rw [ex37]; exact hl36
          refine v_istore (lv' := [(0, .ref (ad 35)), (5, .int (zI x19)), (6, .int (zI y27)), (7, .int (zI x37)), (8, .int (zI y26)), (9, .int (zI y27))]) cx d_G_bestNext_115 (by decide) rfl rfl ?_
          refine v_iincw (lv' := [(0, .ref (ad 35)), (5, .int (zI x19)), (6, .int (zI y27)), (7, .int (zI x37)), (8, .int (zI (y26 + 152))), (9, .int (zI y27))]) cx 4 d_G_bestNext_117 rfl (by decide) rfl rfl ?_
          refine v_iinc (lv' := [(0, .ref (ad 35)), (5, .int (zI x19)), (6, .int (zI y27)), (7, .int (zI x37)), (8, .int (zI (y26 + 152))), (9, .int (zI (y27 + 1)))]) cx 5 d_G_bestNext_123 rfl (by decide) rfl rfl ?_
          refine v_goto cx 85 d_G_bestNext_126 (by decide) ?_
          obtain ⟨hI2, hz40, hz41, hm2⟩ := h
          exact ih85 _ _ _ _ (Nat.lt_of_lt_of_le hm2 (Nat.le_of_lt_succ hmm85)) hI2 hy27 hx37 hz40 hz41
  exact L85 _ _ _ _ _ (Nat.lt_succ_self _) h0 ⟨by decide, by decide⟩ ⟨by decide, by decide⟩ hr23 hx10
def q_G_bound (which : Int) (k_ : Int) (K : Int → zS → Prop) (σ : zS) : Prop :=
  ∀ x2 : Int, x2 = (σ 35 4) * (k_ + 1) → q_L_value 10 (fun r4 σ3 =>
    q_L_roadSize which (fun r7 σ6 =>
      ∀ x8 : Int, x8 = r4 + ((σ3 35 4) * ((r7 - 1) - k_)) → zR x2 ∧ (zR x8 ∧ (K (min 75 (min x2 x8)) σ6))) σ3) σ
abbrev rm_G_bound : Room := { frames := 1, cells := 0, slots := 0, locals := 21 }
set_option maxRecDepth 20000 in
set_option maxHeartbeats 4000000 in
theorem s_G_bound {Ω : zO} {ad : Nat → Nat} {which : Int} {k_ : Int} {K : Int → zS → Prop} {σ : zS} (hwhich : zR which) (hk_ : zR k_) (h : q_G_bound which k_ K σ) : zMi Ω y_G_bound (.code y_G_bound c_G_bound 5 (some .int)) rm_G_bound zLy ad [.ref (ad 35), .int (zI which), .int (zI k_)] σ K := by
  refine z_ofi (lv := [(0, .ref (ad 35)), (1, .int (zI which)), (2, .int (zI k_))]) (by decide) rfl (Nat.le_of_ble_eq_true rfl) ?_
  intro Γ Q cx rt
  unfold q_G_bound at h
  refine v_aload_n cx 0 d_G_bound_0 rfl rfl ?_
  refine gf_G_36 cx d_G_bound_1 (fun hl1 => ?_)
  refine v_iload_n cx 2 d_G_bound_4 rfl rfl ?_
  refine v_iconst cx d_G_bound_5 ?_
  refine v_iadd cx d_G_bound_6 ?_
  refine v_imul cx d_G_bound_7 ?_
  refine v_nm (fun x2 ex2 => ?_)
  replace h := h x2 ex2
  refine v_istore_n (lv' := [(0, .ref (ad 35)), (1, .int (zI which)), (2, .int (zI k_)), (3, .int (zI x2))]) cx d_G_bound_8 rfl (by decide) rfl rfl ?_
  refine v_aload_n cx 0 d_G_bound_9 rfl rfl ?_
  refine gf_G_11 cx d_G_bound_10 ?_
  refine v_bipush cx (by decide) d_G_bound_13 ?_
  refine v_callVi0 (st := []) cx (s_L_value ⟨by decide, by decide⟩ h) yk_L_value lk_G_30 zl_3 rfl rfl rfl (Nat.le_of_ble_eq_true rfl) ⟨Nat.le_of_ble_eq_true rfl, Nat.le_of_ble_eq_true rfl⟩ ⟨rfl, rfl⟩ ⟨(Nat.le_of_ble_eq_true rfl), (Nat.le_of_ble_eq_true rfl)⟩ d_G_bound_15 (fun r4 σ3 hr4 h => ?_)
  refine v_aload_n cx 0 d_G_bound_18 rfl rfl ?_
  refine gf_G_36 cx d_G_bound_19 (fun hl5 => ?_)
  refine v_aload_n cx 0 d_G_bound_22 rfl rfl ?_
  refine gf_G_11 cx d_G_bound_23 ?_
  refine v_iload_n cx 1 d_G_bound_26 rfl rfl ?_
  refine v_callVi0 (st := [.int (zI (σ3 35 4)), .int (zI r4)]) cx (s_L_roadSize hwhich h) yk_L_roadSize lk_G_39 zl_3 rfl rfl rfl (Nat.le_of_ble_eq_true rfl) ⟨Nat.le_of_ble_eq_true rfl, Nat.le_of_ble_eq_true rfl⟩ ⟨rfl, rfl⟩ ⟨(Nat.le_of_ble_eq_true rfl), (Nat.le_of_ble_eq_true rfl)⟩ d_G_bound_27 (fun r7 σ6 hr7 h => ?_)
  refine v_iconst cx d_G_bound_30 ?_
  refine v_isub cx d_G_bound_31 ?_
  refine v_iload_n cx 2 d_G_bound_32 rfl rfl ?_
  refine v_isub cx d_G_bound_33 ?_
  refine v_imul cx d_G_bound_34 ?_
  refine v_iadd cx d_G_bound_35 ?_
  refine v_nm (fun x8 ex8 => ?_)
  replace h := h x8 ex8
  refine v_istore (lv' := [(0, .ref (ad 35)), (1, .int (zI which)), (2, .int (zI k_)), (3, .int (zI x2)), (4, .int (zI x8))]) cx d_G_bound_36 (by decide) rfl rfl ?_
  refine v_bipush cx (by decide) d_G_bound_38 ?_
  refine v_iload_n cx 3 d_G_bound_40 rfl rfl ?_
  refine v_iload cx 4 d_G_bound_41 rfl ?_
  obtain ⟨hr9, h⟩ := h
  obtain ⟨hr10, h⟩ := h
  refine v_mmin cx lk_G_92 zmath_min.1 zmath_min.2.1 zmath_min.2.2 hr9 hr10 (Nat.le_of_ble_eq_true rfl) (Nat.le_of_ble_eq_true rfl) (Nat.le_of_ble_eq_true rfl) (Nat.le_of_ble_eq_true rfl) d_G_bound_43 (fun hl11 => ?_)
  refine v_mmin cx lk_G_92 zmath_min.1 zmath_min.2.1 zmath_min.2.2 ⟨by decide, by decide⟩ hl11 (Nat.le_of_ble_eq_true rfl) (Nat.le_of_ble_eq_true rfl) (Nat.le_of_ble_eq_true rfl) (Nat.le_of_ble_eq_true rfl) d_G_bound_46 (fun hl12 => ?_)
  exact rt _ _ _ _ _ _ (Nat.le_of_ble_eq_true rfl) (Nat.le_of_ble_eq_true rfl) d_G_bound_49 hl12 h
def q_G_choiceShift (offset : Int) (K : Int → zS → Prop) (σ : zS) : Prop :=
  zR (3 * (offset + 3)) ∧ (K (3 * (offset + 3)) σ)
abbrev rm_G_choiceShift : Room := { frames := 0, cells := 0, slots := 0, locals := 0 }
set_option maxRecDepth 20000 in
set_option maxHeartbeats 4000000 in
theorem s_G_choiceShift {Ω : zO} {ad : Nat → Nat} {offset : Int} {K : Int → zS → Prop} {σ : zS} (hoffset : zR offset) (h : q_G_choiceShift offset K σ) : zMi Ω y_G_choiceShift (.code y_G_choiceShift c_G_choiceShift 1 (some .int)) rm_G_choiceShift zLy ad [.int (zI offset)] σ K := by
  refine z_ofi (lv := [(0, .int (zI offset))]) (by decide) rfl (Nat.le_of_ble_eq_true rfl) ?_
  intro Γ Q cx rt
  unfold q_G_choiceShift at h
  refine v_iconst cx d_G_choiceShift_0 ?_
  refine v_iload_n cx 0 d_G_choiceShift_1 rfl rfl ?_
  refine v_iconst cx d_G_choiceShift_2 ?_
  refine v_iadd cx d_G_choiceShift_3 ?_
  refine v_imul cx d_G_choiceShift_4 ?_
  obtain ⟨hr1, h⟩ := h
  exact rt _ _ _ _ _ _ (Nat.le_of_ble_eq_true rfl) (Nat.le_of_ble_eq_true rfl) d_G_choiceShift_5 hr1 h
def q_G_earthOf (offset : Int) (K : Int → zS → Prop) (σ : zS) : Prop :=
  (0 ≤ offset →
    q_L_value 9 (fun r3 σ2 =>
      zR (offset * r3) ∧ (K (offset * r3) σ2)) σ) ∧ (offset < 0 →
    q_L_value 8 (fun r6 σ5 =>
      zR ((-offset) * r6) ∧ (K ((-offset) * r6) σ5)) σ)
abbrev rm_G_earthOf : Room := { frames := 1, cells := 0, slots := 0, locals := 21 }
set_option maxRecDepth 20000 in
set_option maxHeartbeats 4000000 in
theorem s_G_earthOf {Ω : zO} {ad : Nat → Nat} {offset : Int} {K : Int → zS → Prop} {σ : zS} (hoffset : zR offset) (h : q_G_earthOf offset K σ) : zMi Ω y_G_earthOf (.code y_G_earthOf c_G_earthOf 2 (some .int)) rm_G_earthOf zLy ad [.ref (ad 35), .int (zI offset)] σ K := by
  refine z_ofi (lv := [(0, .ref (ad 35)), (1, .int (zI offset))]) (by decide) rfl (Nat.le_of_ble_eq_true rfl) ?_
  intro Γ Q cx rt
  unfold q_G_earthOf at h
  refine v_iload_n cx 1 d_G_earthOf_0 rfl rfl ?_
  refine v_if_ge cx 19 d_G_earthOf_1 (by decide) hoffset (fun c1 => ?_) (fun c1 => ?_)
  · replace h := h.1 c1
    refine v_iload_n cx 1 d_G_earthOf_19 rfl rfl ?_
    refine v_aload_n cx 0 d_G_earthOf_20 rfl rfl ?_
    refine gf_G_11 cx d_G_earthOf_21 ?_
    refine v_bipush cx (by decide) d_G_earthOf_24 ?_
    refine v_callVi0 (st := [.int (zI offset)]) cx (s_L_value ⟨by decide, by decide⟩ h) yk_L_value lk_G_30 zl_3 rfl rfl rfl (Nat.le_of_ble_eq_true rfl) ⟨Nat.le_of_ble_eq_true rfl, Nat.le_of_ble_eq_true rfl⟩ ⟨rfl, rfl⟩ ⟨(Nat.le_of_ble_eq_true rfl), (Nat.le_of_ble_eq_true rfl)⟩ d_G_earthOf_26 (fun r3 σ2 hr3 h => ?_)
    refine v_imul cx d_G_earthOf_29 ?_
    obtain ⟨hr4, h⟩ := h
    exact rt _ _ _ _ _ _ (Nat.le_of_ble_eq_true rfl) (Nat.le_of_ble_eq_true rfl) d_G_earthOf_30 hr4 h
  · replace h := h.2 c1
    refine v_iload_n cx 1 d_G_earthOf_4 rfl rfl ?_
    refine v_ineg cx d_G_earthOf_5 ?_
    refine v_aload_n cx 0 d_G_earthOf_6 rfl rfl ?_
    refine gf_G_11 cx d_G_earthOf_7 ?_
    refine v_bipush cx (by decide) d_G_earthOf_10 ?_
    refine v_callVi0 (st := [.int (zI (-offset))]) cx (s_L_value ⟨by decide, by decide⟩ h) yk_L_value lk_G_30 zl_3 rfl rfl rfl (Nat.le_of_ble_eq_true rfl) ⟨Nat.le_of_ble_eq_true rfl, Nat.le_of_ble_eq_true rfl⟩ ⟨rfl, rfl⟩ ⟨(Nat.le_of_ble_eq_true rfl), (Nat.le_of_ble_eq_true rfl)⟩ d_G_earthOf_12 (fun r6 σ5 hr6 h => ?_)
    refine v_imul cx d_G_earthOf_15 ?_
    refine v_goto cx 30 d_G_earthOf_16 (by decide) ?_
    obtain ⟨hr7, h⟩ := h
    exact rt _ _ _ _ _ _ (Nat.le_of_ble_eq_true rfl) (Nat.le_of_ble_eq_true rfl) d_G_earthOf_30 hr7 h
def q_G_look (which : Int) (rule : Int) (k_ : Int) (K : zS → Prop) (σ : zS) : Prop :=
  zR (k_ + 1) ∧ (q_L_roadPlace which (k_ + 1) (fun r3 σ2 =>
      q_L_height r3 (fun r5 σ4 =>
        q_L_roadPlace which k_ (fun r7 σ6 =>
          q_L_height r7 (fun r9 σ8 =>
            zR (r5 - r9) ∧ (∀ σ11 : zS, σ11 = zU σ8 35 5 (r5 - r9) → q_L_roadHeading which k_ (fun r13 σ12 =>
                q_R_longOf r13 (fun r15 σ14 =>
                  zR (rule * r15) ∧ (zR (Int.tdiv (rule * r15) 100) ∧ (∀ σ18 : zS, σ18 = zU σ14 35 6 (Int.tdiv (rule * r15) 100) → q_G_bound which (k_ + 1) (fun r20 σ19 =>
                        ∀ σ21 : zS, σ21 = zU σ19 35 7 r20 → K σ21) σ18))) σ12) σ11)) σ6) σ4) σ2) σ)
abbrev rm_G_look : Room := { frames := 2, cells := 0, slots := 0, locals := 45 }
set_option maxRecDepth 20000 in
set_option maxHeartbeats 4000000 in
theorem s_G_look {Ω : zO} {ad : Nat → Nat} {which : Int} {rule : Int} {k_ : Int} {K : zS → Prop} {σ : zS} (hwhich : zR which) (hrule : zR rule) (hk_ : zR k_) (h : q_G_look which rule k_ K σ) : zMv Ω y_G_look (.code y_G_look c_G_look 4 none) rm_G_look zLy ad [.ref (ad 35), .int (zI which), .int (zI rule), .int (zI k_)] σ K := by
  refine z_ofv (lv := [(0, .ref (ad 35)), (1, .int (zI which)), (2, .int (zI rule)), (3, .int (zI k_))]) (by decide) rfl (Nat.le_of_ble_eq_true rfl) ?_
  intro Γ Q cx rt
  unfold q_G_look at h
  refine v_aload_n cx 0 d_G_look_0 rfl rfl ?_
  refine v_aload_n cx 0 d_G_look_1 rfl rfl ?_
  refine gf_G_11 cx d_G_look_2 ?_
  refine v_aload_n cx 0 d_G_look_5 rfl rfl ?_
  refine gf_G_11 cx d_G_look_6 ?_
  refine v_iload_n cx 1 d_G_look_9 rfl rfl ?_
  refine v_iload_n cx 3 d_G_look_10 rfl rfl ?_
  refine v_iconst cx d_G_look_11 ?_
  refine v_iadd cx d_G_look_12 ?_
  obtain ⟨hr1, h⟩ := h
  refine v_callVi0 (st := [.ref (ad 3), .ref (ad 35)]) cx (s_L_roadPlace hwhich hr1 h) yk_L_roadPlace lk_G_66 zl_3 rfl rfl rfl (Nat.le_of_ble_eq_true rfl) ⟨Nat.le_of_ble_eq_true rfl, Nat.le_of_ble_eq_true rfl⟩ ⟨rfl, rfl⟩ ⟨(Nat.le_of_ble_eq_true rfl), (Nat.le_of_ble_eq_true rfl)⟩ d_G_look_13 (fun r3 σ2 hr3 h => ?_)
  refine v_callVi0 (st := [.ref (ad 35)]) cx (s_L_height hr3 h) yk_L_height lk_G_69 zl_3 rfl rfl rfl (Nat.le_of_ble_eq_true rfl) ⟨Nat.le_of_ble_eq_true rfl, Nat.le_of_ble_eq_true rfl⟩ ⟨rfl, rfl⟩ ⟨(Nat.le_of_ble_eq_true rfl), (Nat.le_of_ble_eq_true rfl)⟩ d_G_look_16 (fun r5 σ4 hr5 h => ?_)
  refine v_aload_n cx 0 d_G_look_19 rfl rfl ?_
  refine gf_G_11 cx d_G_look_20 ?_
  refine v_aload_n cx 0 d_G_look_23 rfl rfl ?_
  refine gf_G_11 cx d_G_look_24 ?_
  refine v_iload_n cx 1 d_G_look_27 rfl rfl ?_
  refine v_iload_n cx 3 d_G_look_28 rfl rfl ?_
  refine v_callVi0 (st := [.ref (ad 3), .int (zI r5), .ref (ad 35)]) cx (s_L_roadPlace hwhich hk_ h) yk_L_roadPlace lk_G_66 zl_3 rfl rfl rfl (Nat.le_of_ble_eq_true rfl) ⟨Nat.le_of_ble_eq_true rfl, Nat.le_of_ble_eq_true rfl⟩ ⟨rfl, rfl⟩ ⟨(Nat.le_of_ble_eq_true rfl), (Nat.le_of_ble_eq_true rfl)⟩ d_G_look_29 (fun r7 σ6 hr7 h => ?_)
  refine v_callVi0 (st := [.int (zI r5), .ref (ad 35)]) cx (s_L_height hr7 h) yk_L_height lk_G_69 zl_3 rfl rfl rfl (Nat.le_of_ble_eq_true rfl) ⟨Nat.le_of_ble_eq_true rfl, Nat.le_of_ble_eq_true rfl⟩ ⟨rfl, rfl⟩ ⟨(Nat.le_of_ble_eq_true rfl), (Nat.le_of_ble_eq_true rfl)⟩ d_G_look_32 (fun r9 σ8 hr9 h => ?_)
  refine v_isub cx d_G_look_35 ?_
  obtain ⟨hr10, h⟩ := h
  refine pf_G_72 cx hr10 d_G_look_36 ?_
  refine v_ns (fun σ11 eσ11 => ?_)
  replace h := h σ11 eσ11
  refine v_aload_n cx 0 d_G_look_39 rfl rfl ?_
  refine v_iload_n cx 2 d_G_look_40 rfl rfl ?_
  refine v_aload_n cx 0 d_G_look_41 rfl rfl ?_
  refine gf_G_11 cx d_G_look_42 ?_
  refine v_iload_n cx 1 d_G_look_45 rfl rfl ?_
  refine v_iload_n cx 3 d_G_look_46 rfl rfl ?_
  refine v_callVi0 (st := [.int (zI rule), .ref (ad 35)]) cx (s_L_roadHeading hwhich hk_ h) yk_L_roadHeading lk_G_75 zl_3 rfl rfl rfl (Nat.le_of_ble_eq_true rfl) ⟨Nat.le_of_ble_eq_true rfl, Nat.le_of_ble_eq_true rfl⟩ ⟨rfl, rfl⟩ ⟨(Nat.le_of_ble_eq_true rfl), (Nat.le_of_ble_eq_true rfl)⟩ d_G_look_47 (fun r13 σ12 hr13 h => ?_)
  refine v_callNi0 (st := [.int (zI rule), .ref (ad 35)]) cx (s_R_longOf hr13 h) yk_R_longOf ln_G_78 rfl rfl (Nat.le_of_ble_eq_true rfl) ⟨Nat.le_of_ble_eq_true rfl, Nat.le_of_ble_eq_true rfl⟩ ⟨rfl, rfl⟩ ⟨(Nat.le_of_ble_eq_true rfl), (Nat.le_of_ble_eq_true rfl)⟩ d_G_look_50 (fun r15 σ14 hr15 h => ?_)
  refine v_imul cx d_G_look_53 ?_
  refine v_bipush cx (by decide) d_G_look_54 ?_
  obtain ⟨hr16, h⟩ := h
  refine v_idiv cx d_G_look_56 hr16 ⟨by decide, by decide⟩ (by decide) (Or.inr (by decide)) ?_
  obtain ⟨hr17, h⟩ := h
  refine pf_G_81 cx hr17 d_G_look_57 ?_
  refine v_ns (fun σ18 eσ18 => ?_)
  replace h := h σ18 eσ18
  refine v_aload_n cx 0 d_G_look_60 rfl rfl ?_
  refine v_aload_n cx 0 d_G_look_61 rfl rfl ?_
  refine v_iload_n cx 1 d_G_look_62 rfl rfl ?_
  refine v_iload_n cx 3 d_G_look_63 rfl rfl ?_
  refine v_iconst cx d_G_look_64 ?_
  refine v_iadd cx d_G_look_65 ?_
  refine v_callVi0 (st := [.ref (ad 35)]) cx (s_G_bound hwhich hr1 h) yk_G_bound lk_G_51 zl_35 rfl rfl rfl (Nat.le_of_ble_eq_true rfl) ⟨Nat.le_of_ble_eq_true rfl, Nat.le_of_ble_eq_true rfl⟩ ⟨rfl, rfl⟩ ⟨(Nat.le_of_ble_eq_true rfl), (Nat.le_of_ble_eq_true rfl)⟩ d_G_look_66 (fun r20 σ19 hr20 h => ?_)
  refine pf_G_84 cx hr20 d_G_look_69 ?_
  refine v_ns (fun σ21 eσ21 => ?_)
  replace h := h σ21 eσ21
  exact rt _ _ _ _ _ (Nat.le_of_ble_eq_true rfl) (Nat.le_of_ble_eq_true rfl) d_G_look_72 h
def q_G_fillPlace (which : Int) (rule : Int) (k_ : Int) (K : zS → Prop) (σ : zS) : Prop :=
  q_L_roadSize which (fun r2 σ1 =>
    ∃ J19 : Int → Prop, (∀ (w3 : Int), J19 w3 → zR w3 → 
      q_G_bound which k_ (fun r5 σ4 =>
        (w3 ≠ 0 →
          ∀ x7 : Int, x7 = -r5 → ∃ (I46 : Int → zS → Prop) (μ46 : Int → zS → Nat), (I46 x7 σ4 ∧ zR x7) ∧ ∀ (y8 : Int) (σ9 : zS), I46 y8 σ9 → zR y8 → 
          (r5 < y8 →
            K σ9) ∧ (y8 ≤ r5 →
            ∀ x13 : Int, x13 = -(σ9 35 4) → ∃ (I63 : Int → Int → zS → Prop) (μ63 : Int → Int → zS → Nat), (I63 0 x13 σ9 ∧ zR x13) ∧ ∀ (y14 y15 : Int) (σ16 : zS), I63 y14 y15 σ16 → zR y14 → zR y15 → 
            ((σ16 35 4) < y15 →
              (0 ≤ ((k_ * 151) + y8) + 75 ∧ ((k_ * 151) + y8) + 75 < 6040) ∧ (∀ σ21 : zS, σ21 = zU σ16 37 (((k_ * 151) + y8) + 75) y14 → I46 (y8 + 1) σ21 ∧ zR (y8 + 1) ∧ μ46 (y8 + 1) σ21 < μ46 y8 σ9)) ∧ (y15 ≤ (σ16 35 4) →
              ∃ J90 : Int → zS → Prop, (∀ (w24 : Int) (σ25 : zS), J90 w24 σ25 → zR w24 → 
                ∃ J125 : Int → zS → Prop, (∀ (w26 : Int) (σ27 : zS), J125 w26 σ27 → zR w26 → 
                  q_G_cell k_ y15 y8 (fun r29 σ28 =>
                    ∃ J159 : Int → zS → Prop, (∀ (w30 : Int) (σ31 : zS), J159 w30 σ31 → zR w30 → 
                      (0 ≤ r29 ∧ r29 < 2114) ∧ (∀ σ33 : zS, σ33 = zU σ31 36 r29 w30 → q_G_choiceShift y15 (fun r35 σ34 =>
                          ∀ x36 : Int, x36 = zOr y14 (zShl (w24 + 3) r35) → I63 x36 (y15 + 1) σ34 ∧ zR (y15 + 1) ∧ μ63 x36 (y15 + 1) σ34 < μ63 y14 y15 σ16) σ33)) ∧
                    ((w24 ≠ 4 →
                        q_G_earthOf y15 (fun r41 σ40 =>
                          J159 (r41 + w26) σ40 ∧ zR (r41 + w26)) σ28) ∧ (w24 = 4 →
                        J159 1000000000 σ28))) σ27) ∧
                (∃ J103 : Prop, (J103 →
                    J125 0 σ25) ∧
                  ((w3 ≠ 0 →
                      J103) ∧ (w3 = 0 →
                      (w24 ≠ 4 →
                        zR (k_ + 1) ∧ (zR (y8 + w24) ∧ (q_G_cell (k_ + 1) w24 (y8 + w24) (fun r48 σ47 =>
                              (0 ≤ r48 ∧ r48 < 2114) ∧ (J125 (σ47 36 r48) σ47)) σ25))) ∧ (w24 = 4 →
                        J103))))) ∧
              ((w3 = 0 →
                  q_G_bestNext k_ y15 y8 (fun r53 σ52 =>
                    J90 r53 σ52) σ16) ∧ (w3 ≠ 0 →
                  J90 0 σ16))))) ∧ (w3 = 0 →
          q_G_look which rule k_ (fun σ54 =>
            ∀ x55 : Int, x55 = -r5 → ∃ (I46 : Int → zS → Prop) (μ46 : Int → zS → Nat), (I46 x55 σ54 ∧ zR x55) ∧ ∀ (y56 : Int) (σ57 : zS), I46 y56 σ57 → zR y56 → 
            (r5 < y56 →
              K σ57) ∧ (y56 ≤ r5 →
              ∀ x61 : Int, x61 = -(σ57 35 4) → ∃ (I63 : Int → Int → zS → Prop) (μ63 : Int → Int → zS → Nat), (I63 0 x61 σ57 ∧ zR x61) ∧ ∀ (y62 y63 : Int) (σ64 : zS), I63 y62 y63 σ64 → zR y62 → zR y63 → 
              ((σ64 35 4) < y63 →
                (0 ≤ ((k_ * 151) + y56) + 75 ∧ ((k_ * 151) + y56) + 75 < 6040) ∧ (∀ σ69 : zS, σ69 = zU σ64 37 (((k_ * 151) + y56) + 75) y62 → I46 (y56 + 1) σ69 ∧ zR (y56 + 1) ∧ μ46 (y56 + 1) σ69 < μ46 y56 σ57)) ∧ (y63 ≤ (σ64 35 4) →
                ∃ J90 : Int → zS → Prop, (∀ (w72 : Int) (σ73 : zS), J90 w72 σ73 → zR w72 → 
                  ∃ J125 : Int → zS → Prop, (∀ (w74 : Int) (σ75 : zS), J125 w74 σ75 → zR w74 → 
                    q_G_cell k_ y63 y56 (fun r77 σ76 =>
                      ∃ J159 : Int → zS → Prop, (∀ (w78 : Int) (σ79 : zS), J159 w78 σ79 → zR w78 → 
                        (0 ≤ r77 ∧ r77 < 2114) ∧ (∀ σ81 : zS, σ81 = zU σ79 36 r77 w78 → q_G_choiceShift y63 (fun r83 σ82 =>
                            ∀ x84 : Int, x84 = zOr y62 (zShl (w72 + 3) r83) → I63 x84 (y63 + 1) σ82 ∧ zR (y63 + 1) ∧ μ63 x84 (y63 + 1) σ82 < μ63 y62 y63 σ64) σ81)) ∧
                      ((w72 ≠ 4 →
                          q_G_earthOf y63 (fun r89 σ88 =>
                            J159 (r89 + w74) σ88 ∧ zR (r89 + w74)) σ76) ∧ (w72 = 4 →
                          J159 1000000000 σ76))) σ75) ∧
                  (∃ J103 : Prop, (J103 →
                      J125 0 σ73) ∧
                    ((w3 ≠ 0 →
                        J103) ∧ (w3 = 0 →
                        (w72 ≠ 4 →
                          zR (k_ + 1) ∧ (zR (y56 + w72) ∧ (q_G_cell (k_ + 1) w72 (y56 + w72) (fun r96 σ95 =>
                                (0 ≤ r96 ∧ r96 < 2114) ∧ (J125 (σ95 36 r96) σ95)) σ73))) ∧ (w72 = 4 →
                          J103))))) ∧
                ((w3 = 0 →
                    q_G_bestNext k_ y63 y56 (fun r101 σ100 =>
                      J90 r101 σ100) σ64) ∧ (w3 ≠ 0 →
                    J90 0 σ64))))) σ4)) σ1) ∧
    (zR (k_ + 1) ∧ (((k_ + 1) ≠ r2 →
          J19 0) ∧ ((k_ + 1) = r2 →
          J19 1)))) σ
abbrev rm_G_fillPlace : Room := { frames := 3, cells := 0, slots := 0, locals := 68 }
set_option maxRecDepth 20000 in
set_option maxHeartbeats 4000000 in
theorem s_G_fillPlace {Ω : zO} {ad : Nat → Nat} {which : Int} {rule : Int} {k_ : Int} {K : zS → Prop} {σ : zS} (hwhich : zR which) (hrule : zR rule) (hk_ : zR k_) (h : q_G_fillPlace which rule k_ K σ) : zMv Ω y_G_fillPlace (.code y_G_fillPlace c_G_fillPlace 11 none) rm_G_fillPlace zLy ad [.ref (ad 35), .int (zI which), .int (zI rule), .int (zI k_)] σ K := by
  refine z_ofv (lv := [(0, .ref (ad 35)), (1, .int (zI which)), (2, .int (zI rule)), (3, .int (zI k_))]) (by decide) rfl (Nat.le_of_ble_eq_true rfl) ?_
  intro Γ Q cx rt
  unfold q_G_fillPlace at h
  refine v_iload_n cx 3 d_G_fillPlace_0 rfl rfl ?_
  refine v_iconst cx d_G_fillPlace_1 ?_
  refine v_iadd cx d_G_fillPlace_2 ?_
  refine v_aload_n cx 0 d_G_fillPlace_3 rfl rfl ?_
  refine gf_G_11 cx d_G_fillPlace_4 ?_
  refine v_iload_n cx 1 d_G_fillPlace_7 rfl rfl ?_
  refine v_callVi0 (st := [.int (zI (k_ + 1))]) cx (s_L_roadSize hwhich h) yk_L_roadSize lk_G_39 zl_3 rfl rfl rfl (Nat.le_of_ble_eq_true rfl) ⟨Nat.le_of_ble_eq_true rfl, Nat.le_of_ble_eq_true rfl⟩ ⟨rfl, rfl⟩ ⟨(Nat.le_of_ble_eq_true rfl), (Nat.le_of_ble_eq_true rfl)⟩ d_G_fillPlace_8 (fun r2 σ1 hr2 h => ?_)
  obtain ⟨J19, hJ19, h⟩ := h
  have G19 : ∀ (w3 : Int), J19 w3 → zR w3 → zV Ω Γ rm_G_fillPlace 11 Q 0 0 zLy ad σ1 19 [(0, .ref (ad 35)), (1, .int (zI which)), (2, .int (zI rule)), (3, .int (zI k_))] [.int (zI w3)] := by
    intro w3 hJ hw3
    replace h := hJ19 w3 hJ hw3
    refine v_istore (lv' := [(0, .ref (ad 35)), (1, .int (zI which)), (2, .int (zI rule)), (3, .int (zI k_)), (4, .int (zI w3))]) cx d_G_fillPlace_19 (by decide) rfl rfl ?_
    refine v_aload_n cx 0 d_G_fillPlace_21 rfl rfl ?_
    refine v_iload_n cx 1 d_G_fillPlace_22 rfl rfl ?_
    refine v_iload_n cx 3 d_G_fillPlace_23 rfl rfl ?_
    refine v_callVi0 (st := []) cx (s_G_bound hwhich hk_ h) yk_G_bound lk_G_51 zl_35 rfl rfl rfl (Nat.le_of_ble_eq_true rfl) ⟨Nat.le_of_ble_eq_true rfl, Nat.le_of_ble_eq_true rfl⟩ ⟨rfl, rfl⟩ ⟨(Nat.le_of_ble_eq_true rfl), (Nat.le_of_ble_eq_true rfl)⟩ d_G_fillPlace_24 (fun r5 σ4 hr5 h => ?_)
    refine v_istore (lv' := [(0, .ref (ad 35)), (1, .int (zI which)), (2, .int (zI rule)), (3, .int (zI k_)), (4, .int (zI w3)), (5, .int (zI r5))]) cx d_G_fillPlace_27 (by decide) rfl rfl ?_
    refine v_iload cx 4 d_G_fillPlace_29 rfl ?_
    refine v_if_ne cx 41 d_G_fillPlace_31 (by decide) hw3 (fun c6 => ?_) (fun c6 => ?_)
    · replace h := h.1 c6
      refine v_iload cx 5 d_G_fillPlace_41 rfl ?_
      refine v_ineg cx d_G_fillPlace_43 ?_
      refine v_nm (fun x7 ex7 => ?_)
      replace h := h x7 ex7
      refine v_istore (lv' := [(0, .ref (ad 35)), (1, .int (zI which)), (2, .int (zI rule)), (3, .int (zI k_)), (4, .int (zI w3)), (5, .int (zI r5)), (6, .int (zI x7))]) cx d_G_fillPlace_44 (by decide) rfl rfl ?_
      refine v_sb (lv' := [(0, .ref (ad 35)), (3, .int (zI k_)), (4, .int (zI w3)), (5, .int (zI r5)), (6, .int (zI x7))]) [0, 3, 4, 5, 6] rfl ?_
      obtain ⟨I46, μ46, h0, h⟩ := h
      obtain ⟨h0, hi10⟩ := h0
      have L46 : ∀ (N46 : Nat) (y8 : Int) (σ9 : zS), μ46 y8 σ9 < N46 → I46 y8 σ9 → zR y8 → zV Ω Γ rm_G_fillPlace 11 Q 0 0 zLy ad σ9 46 [(0, .ref (ad 35)), (3, .int (zI k_)), (4, .int (zI w3)), (5, .int (zI r5)), (6, .int (zI y8))] [] := by
        intro N46
        induction N46 with
        | zero => intro y8 σ9 hm; exact absurd hm (Nat.not_lt_zero _)
        | succ N46 ih46 =>
          intro y8 σ9 hmm46 hI hy8
          replace h := h y8 σ9 hI hy8
          refine v_iload cx 4 d_G_fillPlace_46 rfl ?_
          refine v_iload cx 3 d_G_fillPlace_48 rfl ?_
          refine v_icmp_gt cx 205 d_G_fillPlace_50 (by decide) hy8 hr5 (fun c11 => ?_) (fun c11 => ?_)
          · replace h := h.1 c11
            exact rt _ _ _ _ _ (Nat.le_of_ble_eq_true rfl) (Nat.le_of_ble_eq_true rfl) d_G_fillPlace_205 h
          · replace h := h.2 c11
            refine v_iconst cx d_G_fillPlace_53 ?_
            refine v_istore (lv' := [(0, .ref (ad 35)), (3, .int (zI k_)), (4, .int (zI w3)), (5, .int (zI r5)), (6, .int (zI y8)), (7, .int (zI 0))]) cx d_G_fillPlace_54 (by decide) rfl rfl ?_
            refine v_aload_n cx 0 d_G_fillPlace_56 rfl rfl ?_
            refine gf_G_36 cx d_G_fillPlace_57 (fun hl12 => ?_)
            refine v_ineg cx d_G_fillPlace_60 ?_
            refine v_nm (fun x13 ex13 => ?_)
            replace h := h x13 ex13
            refine v_istore (lv' := [(0, .ref (ad 35)), (3, .int (zI k_)), (4, .int (zI w3)), (5, .int (zI r5)), (6, .int (zI y8)), (7, .int (zI 0)), (8, .int (zI x13))]) cx d_G_fillPlace_61 (by decide) rfl rfl ?_
            obtain ⟨I63, μ63, h0, h⟩ := h
            obtain ⟨h0, hi17⟩ := h0
            have L63 : ∀ (N63 : Nat) (y14 y15 : Int) (σ16 : zS), μ63 y14 y15 σ16 < N63 → I63 y14 y15 σ16 → zR y14 → zR y15 → zV Ω Γ rm_G_fillPlace 11 Q 0 0 zLy ad σ16 63 [(0, .ref (ad 35)), (3, .int (zI k_)), (4, .int (zI w3)), (5, .int (zI r5)), (6, .int (zI y8)), (7, .int (zI y14)), (8, .int (zI y15))] [] := by
              intro N63
              induction N63 with
              | zero => intro y14 y15 σ16 hm; exact absurd hm (Nat.not_lt_zero _)
              | succ N63 ih63 =>
                intro y14 y15 σ16 hmm63 hI hy14 hy15
                replace h := h y14 y15 σ16 hI hy14 hy15
                refine v_iload cx 6 d_G_fillPlace_63 rfl ?_
                refine v_aload_n cx 0 d_G_fillPlace_65 rfl rfl ?_
                refine gf_G_36 cx d_G_fillPlace_66 (fun hl18 => ?_)
                refine v_icmp_gt cx 181 d_G_fillPlace_69 (by decide) hy15 hl18 (fun c19 => ?_) (fun c19 => ?_)
                · replace h := h.1 c19
                  refine v_aload_n cx 0 d_G_fillPlace_181 rfl rfl ?_
                  refine gf_G_19 cx d_G_fillPlace_182 ?_
                  refine v_iload_n cx 1 d_G_fillPlace_185 rfl rfl ?_
                  refine v_sipush cx (by decide) d_G_fillPlace_186 ?_
                  refine v_imul cx d_G_fillPlace_189 ?_
                  refine v_iload cx 4 d_G_fillPlace_190 rfl ?_
                  refine v_iadd cx d_G_fillPlace_192 ?_
                  refine v_bipush cx (by decide) d_G_fillPlace_193 ?_
                  refine v_iadd cx d_G_fillPlace_195 ?_
                  refine v_iload cx 5 d_G_fillPlace_196 rfl ?_
                  obtain ⟨hb20, h⟩ := h
                  refine v_iast cx zl_37 (by decide) hb20.1 hb20.2 hy14 d_G_fillPlace_198 ?_
                  refine v_ns (fun σ21 eσ21 => ?_)
                  replace h := h σ21 eσ21
                  refine v_iinc (lv' := [(0, .ref (ad 35)), (3, .int (zI k_)), (4, .int (zI w3)), (5, .int (zI r5)), (6, .int (zI (y8 + 1))), (7, .int (zI y14)), (8, .int (zI y15))]) cx 4 d_G_fillPlace_199 rfl (by decide) rfl rfl ?_
                  refine v_goto cx 46 d_G_fillPlace_202 (by decide) ?_
                  refine v_sb (lv' := [(0, .ref (ad 35)), (3, .int (zI k_)), (4, .int (zI w3)), (5, .int (zI r5)), (6, .int (zI (y8 + 1)))]) [0, 1, 2, 3, 4] rfl ?_
                  obtain ⟨hI2, hz23, hm2⟩ := h
                  exact ih46 _ _ (Nat.lt_of_lt_of_le hm2 (Nat.le_of_lt_succ hmm46)) hI2 hz23
                · replace h := h.2 c19
                  refine v_iload cx 2 d_G_fillPlace_72 rfl ?_
                  obtain ⟨J90, hJ90, h⟩ := h
                  have G90 : ∀ (w24 : Int) (σ25 : zS), J90 w24 σ25 → zR w24 → zV Ω Γ rm_G_fillPlace 11 Q 0 0 zLy ad σ25 90 [(0, .ref (ad 35)), (3, .int (zI k_)), (4, .int (zI w3)), (5, .int (zI r5)), (6, .int (zI y8)), (7, .int (zI y14)), (8, .int (zI y15))] [.int (zI w24)] := by
                    intro w24 σ25 hJ hw24
                    replace h := hJ90 w24 σ25 hJ hw24
                    refine v_istore (lv' := [(0, .ref (ad 35)), (3, .int (zI k_)), (4, .int (zI w3)), (5, .int (zI r5)), (6, .int (zI y8)), (7, .int (zI y14)), (8, .int (zI y15)), (9, .int (zI w24))]) cx d_G_fillPlace_90 (by decide) rfl rfl ?_
                    refine v_iload cx 2 d_G_fillPlace_92 rfl ?_
                    obtain ⟨J125, hJ125, h⟩ := h
                    have G125 : ∀ (w26 : Int) (σ27 : zS), J125 w26 σ27 → zR w26 → zV Ω Γ rm_G_fillPlace 11 Q 0 0 zLy ad σ27 125 [(0, .ref (ad 35)), (3, .int (zI k_)), (4, .int (zI w3)), (5, .int (zI r5)), (6, .int (zI y8)), (7, .int (zI y14)), (8, .int (zI y15)), (9, .int (zI w24))] [.int (zI w26)] := by
                      intro w26 σ27 hJ hw26
                      replace h := hJ125 w26 σ27 hJ hw26
                      refine v_istore (lv' := [(0, .ref (ad 35)), (3, .int (zI k_)), (4, .int (zI w3)), (5, .int (zI r5)), (6, .int (zI y8)), (7, .int (zI y14)), (8, .int (zI y15)), (9, .int (zI w24)), (10, .int (zI w26))]) cx d_G_fillPlace_125 (by decide) rfl rfl ?_
                      refine v_aload_n cx 0 d_G_fillPlace_127 rfl rfl ?_
                      refine gf_G_15 cx d_G_fillPlace_128 ?_
                      refine v_iload_n cx 1 d_G_fillPlace_131 rfl rfl ?_
                      refine v_iload cx 6 d_G_fillPlace_132 rfl ?_
                      refine v_iload cx 4 d_G_fillPlace_134 rfl ?_
                      refine v_callSi0 (st := [.ref (ad 36)]) cx (s_G_cell hk_ hy15 hy8 h) yk_G_cell lk_G_47 rfl rfl (Nat.le_of_ble_eq_true rfl) ⟨Nat.le_of_ble_eq_true rfl, Nat.le_of_ble_eq_true rfl⟩ ⟨rfl, rfl⟩ ⟨(Nat.le_of_ble_eq_true rfl), (Nat.le_of_ble_eq_true rfl)⟩ d_G_fillPlace_136 (fun r29 σ28 hr29 h => ?_)
                      refine v_iload cx 7 d_G_fillPlace_139 rfl ?_
                      refine v_iconst cx d_G_fillPlace_141 ?_
                      obtain ⟨J159, hJ159, h⟩ := h
                      have G159 : ∀ (w30 : Int) (σ31 : zS), J159 w30 σ31 → zR w30 → zV Ω Γ rm_G_fillPlace 11 Q 0 0 zLy ad σ31 159 [(0, .ref (ad 35)), (3, .int (zI k_)), (4, .int (zI w3)), (5, .int (zI r5)), (6, .int (zI y8)), (7, .int (zI y14)), (8, .int (zI y15)), (9, .int (zI w24))] [.int (zI w30), .int (zI r29), .ref (ad 36)] := by
                        intro w30 σ31 hJ hw30
                        replace h := hJ159 w30 σ31 hJ hw30
                        obtain ⟨hb32, h⟩ := h
                        refine v_iast cx zl_36 (by decide) hb32.1 hb32.2 hw30 d_G_fillPlace_159 ?_
                        refine v_ns (fun σ33 eσ33 => ?_)
                        replace h := h σ33 eσ33
                        refine v_iload cx 5 d_G_fillPlace_160 rfl ?_
                        refine v_iload cx 7 d_G_fillPlace_162 rfl ?_
                        refine v_iconst cx d_G_fillPlace_164 ?_
                        refine v_iadd cx d_G_fillPlace_165 ?_
                        refine v_iload cx 6 d_G_fillPlace_166 rfl ?_
                        refine v_callSi0 (st := [.int (zI (w24 + 3)), .int (zI y14)]) cx (s_G_choiceShift hy15 h) yk_G_choiceShift lk_G_63 rfl rfl (Nat.le_of_ble_eq_true rfl) ⟨Nat.le_of_ble_eq_true rfl, Nat.le_of_ble_eq_true rfl⟩ ⟨rfl, rfl⟩ ⟨(Nat.le_of_ble_eq_true rfl), (Nat.le_of_ble_eq_true rfl)⟩ d_G_fillPlace_168 (fun r35 σ34 hr35 h => ?_)
                        refine v_ishl cx d_G_fillPlace_171 ?_
                        refine v_ior cx d_G_fillPlace_172 ?_
                        refine v_nm (fun x36 ex36 => ?_)
                        replace h := h x36 ex36
                        have hx36 : zR x36 := by rw [ex36]; exact (zR_or _ _)
                        refine v_istore (lv' := [(0, .ref (ad 35)), (3, .int (zI k_)), (4, .int (zI w3)), (5, .int (zI r5)), (6, .int (zI y8)), (7, .int (zI x36)), (8, .int (zI y15)), (9, .int (zI w24))]) cx d_G_fillPlace_173 (by decide) rfl rfl ?_
                        refine v_iinc (lv' := [(0, .ref (ad 35)), (3, .int (zI k_)), (4, .int (zI w3)), (5, .int (zI r5)), (6, .int (zI y8)), (7, .int (zI x36)), (8, .int (zI (y15 + 1))), (9, .int (zI w24))]) cx 6 d_G_fillPlace_175 rfl (by decide) rfl rfl ?_
                        refine v_goto cx 63 d_G_fillPlace_178 (by decide) ?_
                        refine v_sb (lv' := [(0, .ref (ad 35)), (3, .int (zI k_)), (4, .int (zI w3)), (5, .int (zI r5)), (6, .int (zI y8)), (7, .int (zI x36)), (8, .int (zI (y15 + 1)))]) [0, 1, 2, 3, 4, 5, 6] rfl ?_
                        obtain ⟨hI2, hz38, hm2⟩ := h
                        exact ih63 _ _ _ (Nat.lt_of_lt_of_le hm2 (Nat.le_of_lt_succ hmm63)) hI2 hx36 hz38
                      refine v_icmp_ne cx 150 d_G_fillPlace_142 (by decide) hw24 ⟨by decide, by decide⟩ (fun c39 => ?_) (fun c39 => ?_)
                      · replace h := h.1 c39
                        refine v_aload_n cx 0 d_G_fillPlace_150 rfl rfl ?_
                        refine v_iload cx 6 d_G_fillPlace_151 rfl ?_
                        refine v_callVi0 (st := [.int (zI r29), .ref (ad 36)]) cx (s_G_earthOf hy15 h) yk_G_earthOf lk_G_60 zl_35 rfl rfl rfl (Nat.le_of_ble_eq_true rfl) ⟨Nat.le_of_ble_eq_true rfl, Nat.le_of_ble_eq_true rfl⟩ ⟨rfl, rfl⟩ ⟨(Nat.le_of_ble_eq_true rfl), (Nat.le_of_ble_eq_true rfl)⟩ d_G_fillPlace_153 (fun r41 σ40 hr41 h => ?_)
                        refine v_iload cx 8 d_G_fillPlace_156 rfl ?_
                        refine v_iadd cx d_G_fillPlace_158 ?_
                        refine v_sb (lv' := [(0, .ref (ad 35)), (3, .int (zI k_)), (4, .int (zI w3)), (5, .int (zI r5)), (6, .int (zI y8)), (7, .int (zI y14)), (8, .int (zI y15)), (9, .int (zI w24))]) [0, 1, 2, 3, 4, 5, 6, 7] rfl ?_
                        obtain ⟨hJ2, hz42⟩ := h
                        exact G159 _ _ hJ2 hz42
                      · replace h := h.2 c39
                        refine v_ldc cx ct_G_46 d_G_fillPlace_145 ?_
                        refine v_goto cx 159 d_G_fillPlace_147 (by decide) ?_
                        refine v_sb (lv' := [(0, .ref (ad 35)), (3, .int (zI k_)), (4, .int (zI w3)), (5, .int (zI r5)), (6, .int (zI y8)), (7, .int (zI y14)), (8, .int (zI y15)), (9, .int (zI w24))]) [0, 1, 2, 3, 4, 5, 6, 7] rfl ?_
                        have hJ2 := h
                        exact G159 _ _ hJ2 ⟨by decide, by decide⟩
                    obtain ⟨J103, hJ103, h⟩ := h
                    have G103 : J103 → zV Ω Γ rm_G_fillPlace 11 Q 0 0 zLy ad σ25 103 [(0, .ref (ad 35)), (3, .int (zI k_)), (4, .int (zI w3)), (5, .int (zI r5)), (6, .int (zI y8)), (7, .int (zI y14)), (8, .int (zI y15)), (9, .int (zI w24))] [] := by
                      intro hJ
                      replace h := hJ103 hJ
                      refine v_iconst cx d_G_fillPlace_103 ?_
                      refine v_goto cx 125 d_G_fillPlace_104 (by decide) ?_
                      have hJ2 := h
                      exact G125 _ _ hJ2 ⟨by decide, by decide⟩
                    refine v_if_ne cx 103 d_G_fillPlace_94 (by decide) hw3 (fun c43 => ?_) (fun c43 => ?_)
                    · replace h := h.1 c43
                      have hJ2 := h
                      exact G103 hJ2 
                    · replace h := h.2 c43
                      refine v_iload cx 7 d_G_fillPlace_97 rfl ?_
                      refine v_iconst cx d_G_fillPlace_99 ?_
                      refine v_icmp_ne cx 107 d_G_fillPlace_100 (by decide) hw24 ⟨by decide, by decide⟩ (fun c44 => ?_) (fun c44 => ?_)
                      · replace h := h.1 c44
                        refine v_aload_n cx 0 d_G_fillPlace_107 rfl rfl ?_
                        refine gf_G_15 cx d_G_fillPlace_108 ?_
                        refine v_iload_n cx 1 d_G_fillPlace_111 rfl rfl ?_
                        refine v_iconst cx d_G_fillPlace_112 ?_
                        refine v_iadd cx d_G_fillPlace_113 ?_
                        refine v_iload cx 7 d_G_fillPlace_114 rfl ?_
                        refine v_iload cx 4 d_G_fillPlace_116 rfl ?_
                        refine v_iload cx 7 d_G_fillPlace_118 rfl ?_
                        refine v_iadd cx d_G_fillPlace_120 ?_
                        obtain ⟨hr45, h⟩ := h
                        obtain ⟨hr46, h⟩ := h
                        refine v_callSi0 (st := [.ref (ad 36)]) cx (s_G_cell hr45 hw24 hr46 h) yk_G_cell lk_G_47 rfl rfl (Nat.le_of_ble_eq_true rfl) ⟨Nat.le_of_ble_eq_true rfl, Nat.le_of_ble_eq_true rfl⟩ ⟨rfl, rfl⟩ ⟨(Nat.le_of_ble_eq_true rfl), (Nat.le_of_ble_eq_true rfl)⟩ d_G_fillPlace_121 (fun r48 σ47 hr48 h => ?_)
                        obtain ⟨hb49, h⟩ := h
                        refine v_iald cx zl_36 (by decide) hb49.1 hb49.2 d_G_fillPlace_124 (fun hl50 => ?_)
                        have hJ2 := h
                        exact G125 _ _ hJ2 hl50
                      · replace h := h.2 c44
                        have hJ2 := h
                        exact G103 hJ2 
                  refine v_if_eq cx 81 d_G_fillPlace_74 (by decide) hw3 (fun c51 => ?_) (fun c51 => ?_)
                  · replace h := h.1 c51
                    refine v_aload_n cx 0 d_G_fillPlace_81 rfl rfl ?_
                    refine v_iload_n cx 1 d_G_fillPlace_82 rfl rfl ?_
                    refine v_iload cx 6 d_G_fillPlace_83 rfl ?_
                    refine v_iload cx 4 d_G_fillPlace_85 rfl ?_
                    refine v_callVi0 (st := []) cx (s_G_bestNext hk_ hy15 hy8 h) yk_G_bestNext lk_G_57 zl_35 rfl rfl rfl (Nat.le_of_ble_eq_true rfl) ⟨Nat.le_of_ble_eq_true rfl, Nat.le_of_ble_eq_true rfl⟩ ⟨rfl, rfl⟩ ⟨(Nat.le_of_ble_eq_true rfl), (Nat.le_of_ble_eq_true rfl)⟩ d_G_fillPlace_87 (fun r53 σ52 hr53 h => ?_)
                    have hJ2 := h
                    exact G90 _ _ hJ2 hr53
                  · replace h := h.2 c51
                    refine v_iconst cx d_G_fillPlace_77 ?_
                    refine v_goto cx 90 d_G_fillPlace_78 (by decide) ?_
                    have hJ2 := h
                    exact G90 _ _ hJ2 ⟨by decide, by decide⟩
            exact L63 _ _ _ _ (Nat.lt_succ_self _) h0 ⟨by decide, by decide⟩ hi17
      exact L46 _ _ _ (Nat.lt_succ_self _) h0 hi10
    · replace h := h.2 c6
      refine v_aload_n cx 0 d_G_fillPlace_34 rfl rfl ?_
      refine v_iload_n cx 1 d_G_fillPlace_35 rfl rfl ?_
      refine v_iload_n cx 2 d_G_fillPlace_36 rfl rfl ?_
      refine v_iload_n cx 3 d_G_fillPlace_37 rfl rfl ?_
      refine v_callVv0 (st := []) cx (s_G_look hwhich hrule hk_ h) yk_G_look lk_G_54 zl_35 rfl rfl rfl (Nat.le_of_ble_eq_true rfl) ⟨Nat.le_of_ble_eq_true rfl, Nat.le_of_ble_eq_true rfl⟩ ⟨rfl, rfl⟩ ⟨(Nat.le_of_ble_eq_true rfl), (Nat.le_of_ble_eq_true rfl)⟩ d_G_fillPlace_38 (fun σ54 h => ?_)
      refine v_iload cx 5 d_G_fillPlace_41 rfl ?_
      refine v_ineg cx d_G_fillPlace_43 ?_
      refine v_nm (fun x55 ex55 => ?_)
      replace h := h x55 ex55
      refine v_istore (lv' := [(0, .ref (ad 35)), (1, .int (zI which)), (2, .int (zI rule)), (3, .int (zI k_)), (4, .int (zI w3)), (5, .int (zI r5)), (6, .int (zI x55))]) cx d_G_fillPlace_44 (by decide) rfl rfl ?_
      refine v_sb (lv' := [(0, .ref (ad 35)), (3, .int (zI k_)), (4, .int (zI w3)), (5, .int (zI r5)), (6, .int (zI x55))]) [0, 3, 4, 5, 6] rfl ?_
      obtain ⟨I46, μ46, h0, h⟩ := h
      obtain ⟨h0, hi58⟩ := h0
      have L46 : ∀ (N46 : Nat) (y56 : Int) (σ57 : zS), μ46 y56 σ57 < N46 → I46 y56 σ57 → zR y56 → zV Ω Γ rm_G_fillPlace 11 Q 0 0 zLy ad σ57 46 [(0, .ref (ad 35)), (3, .int (zI k_)), (4, .int (zI w3)), (5, .int (zI r5)), (6, .int (zI y56))] [] := by
        intro N46
        induction N46 with
        | zero => intro y56 σ57 hm; exact absurd hm (Nat.not_lt_zero _)
        | succ N46 ih46 =>
          intro y56 σ57 hmm46 hI hy56
          replace h := h y56 σ57 hI hy56
          refine v_iload cx 4 d_G_fillPlace_46 rfl ?_
          refine v_iload cx 3 d_G_fillPlace_48 rfl ?_
          refine v_icmp_gt cx 205 d_G_fillPlace_50 (by decide) hy56 hr5 (fun c59 => ?_) (fun c59 => ?_)
          · replace h := h.1 c59
            exact rt _ _ _ _ _ (Nat.le_of_ble_eq_true rfl) (Nat.le_of_ble_eq_true rfl) d_G_fillPlace_205 h
          · replace h := h.2 c59
            refine v_iconst cx d_G_fillPlace_53 ?_
            refine v_istore (lv' := [(0, .ref (ad 35)), (3, .int (zI k_)), (4, .int (zI w3)), (5, .int (zI r5)), (6, .int (zI y56)), (7, .int (zI 0))]) cx d_G_fillPlace_54 (by decide) rfl rfl ?_
            refine v_aload_n cx 0 d_G_fillPlace_56 rfl rfl ?_
            refine gf_G_36 cx d_G_fillPlace_57 (fun hl60 => ?_)
            refine v_ineg cx d_G_fillPlace_60 ?_
            refine v_nm (fun x61 ex61 => ?_)
            replace h := h x61 ex61
            refine v_istore (lv' := [(0, .ref (ad 35)), (3, .int (zI k_)), (4, .int (zI w3)), (5, .int (zI r5)), (6, .int (zI y56)), (7, .int (zI 0)), (8, .int (zI x61))]) cx d_G_fillPlace_61 (by decide) rfl rfl ?_
            obtain ⟨I63, μ63, h0, h⟩ := h
            obtain ⟨h0, hi65⟩ := h0
            have L63 : ∀ (N63 : Nat) (y62 y63 : Int) (σ64 : zS), μ63 y62 y63 σ64 < N63 → I63 y62 y63 σ64 → zR y62 → zR y63 → zV Ω Γ rm_G_fillPlace 11 Q 0 0 zLy ad σ64 63 [(0, .ref (ad 35)), (3, .int (zI k_)), (4, .int (zI w3)), (5, .int (zI r5)), (6, .int (zI y56)), (7, .int (zI y62)), (8, .int (zI y63))] [] := by
              intro N63
              induction N63 with
              | zero => intro y62 y63 σ64 hm; exact absurd hm (Nat.not_lt_zero _)
              | succ N63 ih63 =>
                intro y62 y63 σ64 hmm63 hI hy62 hy63
                replace h := h y62 y63 σ64 hI hy62 hy63
                refine v_iload cx 6 d_G_fillPlace_63 rfl ?_
                refine v_aload_n cx 0 d_G_fillPlace_65 rfl rfl ?_
                refine gf_G_36 cx d_G_fillPlace_66 (fun hl66 => ?_)
                refine v_icmp_gt cx 181 d_G_fillPlace_69 (by decide) hy63 hl66 (fun c67 => ?_) (fun c67 => ?_)
                · replace h := h.1 c67
                  refine v_aload_n cx 0 d_G_fillPlace_181 rfl rfl ?_
                  refine gf_G_19 cx d_G_fillPlace_182 ?_
                  refine v_iload_n cx 1 d_G_fillPlace_185 rfl rfl ?_
                  refine v_sipush cx (by decide) d_G_fillPlace_186 ?_
                  refine v_imul cx d_G_fillPlace_189 ?_
                  refine v_iload cx 4 d_G_fillPlace_190 rfl ?_
                  refine v_iadd cx d_G_fillPlace_192 ?_
                  refine v_bipush cx (by decide) d_G_fillPlace_193 ?_
                  refine v_iadd cx d_G_fillPlace_195 ?_
                  refine v_iload cx 5 d_G_fillPlace_196 rfl ?_
                  obtain ⟨hb68, h⟩ := h
                  refine v_iast cx zl_37 (by decide) hb68.1 hb68.2 hy62 d_G_fillPlace_198 ?_
                  refine v_ns (fun σ69 eσ69 => ?_)
                  replace h := h σ69 eσ69
                  refine v_iinc (lv' := [(0, .ref (ad 35)), (3, .int (zI k_)), (4, .int (zI w3)), (5, .int (zI r5)), (6, .int (zI (y56 + 1))), (7, .int (zI y62)), (8, .int (zI y63))]) cx 4 d_G_fillPlace_199 rfl (by decide) rfl rfl ?_
                  refine v_goto cx 46 d_G_fillPlace_202 (by decide) ?_
                  refine v_sb (lv' := [(0, .ref (ad 35)), (3, .int (zI k_)), (4, .int (zI w3)), (5, .int (zI r5)), (6, .int (zI (y56 + 1)))]) [0, 1, 2, 3, 4] rfl ?_
                  obtain ⟨hI2, hz71, hm2⟩ := h
                  exact ih46 _ _ (Nat.lt_of_lt_of_le hm2 (Nat.le_of_lt_succ hmm46)) hI2 hz71
                · replace h := h.2 c67
                  refine v_iload cx 2 d_G_fillPlace_72 rfl ?_
                  obtain ⟨J90, hJ90, h⟩ := h
                  have G90 : ∀ (w72 : Int) (σ73 : zS), J90 w72 σ73 → zR w72 → zV Ω Γ rm_G_fillPlace 11 Q 0 0 zLy ad σ73 90 [(0, .ref (ad 35)), (3, .int (zI k_)), (4, .int (zI w3)), (5, .int (zI r5)), (6, .int (zI y56)), (7, .int (zI y62)), (8, .int (zI y63))] [.int (zI w72)] := by
                    intro w72 σ73 hJ hw72
                    replace h := hJ90 w72 σ73 hJ hw72
                    refine v_istore (lv' := [(0, .ref (ad 35)), (3, .int (zI k_)), (4, .int (zI w3)), (5, .int (zI r5)), (6, .int (zI y56)), (7, .int (zI y62)), (8, .int (zI y63)), (9, .int (zI w72))]) cx d_G_fillPlace_90 (by decide) rfl rfl ?_
                    refine v_iload cx 2 d_G_fillPlace_92 rfl ?_
                    obtain ⟨J125, hJ125, h⟩ := h
                    have G125 : ∀ (w74 : Int) (σ75 : zS), J125 w74 σ75 → zR w74 → zV Ω Γ rm_G_fillPlace 11 Q 0 0 zLy ad σ75 125 [(0, .ref (ad 35)), (3, .int (zI k_)), (4, .int (zI w3)), (5, .int (zI r5)), (6, .int (zI y56)), (7, .int (zI y62)), (8, .int (zI y63)), (9, .int (zI w72))] [.int (zI w74)] := by
                      intro w74 σ75 hJ hw74
                      replace h := hJ125 w74 σ75 hJ hw74
                      refine v_istore (lv' := [(0, .ref (ad 35)), (3, .int (zI k_)), (4, .int (zI w3)), (5, .int (zI r5)), (6, .int (zI y56)), (7, .int (zI y62)), (8, .int (zI y63)), (9, .int (zI w72)), (10, .int (zI w74))]) cx d_G_fillPlace_125 (by decide) rfl rfl ?_
                      refine v_aload_n cx 0 d_G_fillPlace_127 rfl rfl ?_
                      refine gf_G_15 cx d_G_fillPlace_128 ?_
                      refine v_iload_n cx 1 d_G_fillPlace_131 rfl rfl ?_
                      refine v_iload cx 6 d_G_fillPlace_132 rfl ?_
                      refine v_iload cx 4 d_G_fillPlace_134 rfl ?_
                      refine v_callSi0 (st := [.ref (ad 36)]) cx (s_G_cell hk_ hy63 hy56 h) yk_G_cell lk_G_47 rfl rfl (Nat.le_of_ble_eq_true rfl) ⟨Nat.le_of_ble_eq_true rfl, Nat.le_of_ble_eq_true rfl⟩ ⟨rfl, rfl⟩ ⟨(Nat.le_of_ble_eq_true rfl), (Nat.le_of_ble_eq_true rfl)⟩ d_G_fillPlace_136 (fun r77 σ76 hr77 h => ?_)
                      refine v_iload cx 7 d_G_fillPlace_139 rfl ?_
                      refine v_iconst cx d_G_fillPlace_141 ?_
                      obtain ⟨J159, hJ159, h⟩ := h
                      have G159 : ∀ (w78 : Int) (σ79 : zS), J159 w78 σ79 → zR w78 → zV Ω Γ rm_G_fillPlace 11 Q 0 0 zLy ad σ79 159 [(0, .ref (ad 35)), (3, .int (zI k_)), (4, .int (zI w3)), (5, .int (zI r5)), (6, .int (zI y56)), (7, .int (zI y62)), (8, .int (zI y63)), (9, .int (zI w72))] [.int (zI w78), .int (zI r77), .ref (ad 36)] := by
                        intro w78 σ79 hJ hw78
                        replace h := hJ159 w78 σ79 hJ hw78
                        obtain ⟨hb80, h⟩ := h
                        refine v_iast cx zl_36 (by decide) hb80.1 hb80.2 hw78 d_G_fillPlace_159 ?_
                        refine v_ns (fun σ81 eσ81 => ?_)
                        replace h := h σ81 eσ81
                        refine v_iload cx 5 d_G_fillPlace_160 rfl ?_
                        refine v_iload cx 7 d_G_fillPlace_162 rfl ?_
                        refine v_iconst cx d_G_fillPlace_164 ?_
                        refine v_iadd cx d_G_fillPlace_165 ?_
                        refine v_iload cx 6 d_G_fillPlace_166 rfl ?_
                        refine v_callSi0 (st := [.int (zI (w72 + 3)), .int (zI y62)]) cx (s_G_choiceShift hy63 h) yk_G_choiceShift lk_G_63 rfl rfl (Nat.le_of_ble_eq_true rfl) ⟨Nat.le_of_ble_eq_true rfl, Nat.le_of_ble_eq_true rfl⟩ ⟨rfl, rfl⟩ ⟨(Nat.le_of_ble_eq_true rfl), (Nat.le_of_ble_eq_true rfl)⟩ d_G_fillPlace_168 (fun r83 σ82 hr83 h => ?_)
                        refine v_ishl cx d_G_fillPlace_171 ?_
                        refine v_ior cx d_G_fillPlace_172 ?_
                        refine v_nm (fun x84 ex84 => ?_)
                        replace h := h x84 ex84
                        have hx84 : zR x84 := by rw [ex84]; exact (zR_or _ _)
                        refine v_istore (lv' := [(0, .ref (ad 35)), (3, .int (zI k_)), (4, .int (zI w3)), (5, .int (zI r5)), (6, .int (zI y56)), (7, .int (zI x84)), (8, .int (zI y63)), (9, .int (zI w72))]) cx d_G_fillPlace_173 (by decide) rfl rfl ?_
                        refine v_iinc (lv' := [(0, .ref (ad 35)), (3, .int (zI k_)), (4, .int (zI w3)), (5, .int (zI r5)), (6, .int (zI y56)), (7, .int (zI x84)), (8, .int (zI (y63 + 1))), (9, .int (zI w72))]) cx 6 d_G_fillPlace_175 rfl (by decide) rfl rfl ?_
                        refine v_goto cx 63 d_G_fillPlace_178 (by decide) ?_
                        refine v_sb (lv' := [(0, .ref (ad 35)), (3, .int (zI k_)), (4, .int (zI w3)), (5, .int (zI r5)), (6, .int (zI y56)), (7, .int (zI x84)), (8, .int (zI (y63 + 1)))]) [0, 1, 2, 3, 4, 5, 6] rfl ?_
                        obtain ⟨hI2, hz86, hm2⟩ := h
                        exact ih63 _ _ _ (Nat.lt_of_lt_of_le hm2 (Nat.le_of_lt_succ hmm63)) hI2 hx84 hz86
                      refine v_icmp_ne cx 150 d_G_fillPlace_142 (by decide) hw72 ⟨by decide, by decide⟩ (fun c87 => ?_) (fun c87 => ?_)
                      · replace h := h.1 c87
                        refine v_aload_n cx 0 d_G_fillPlace_150 rfl rfl ?_
                        refine v_iload cx 6 d_G_fillPlace_151 rfl ?_
                        refine v_callVi0 (st := [.int (zI r77), .ref (ad 36)]) cx (s_G_earthOf hy63 h) yk_G_earthOf lk_G_60 zl_35 rfl rfl rfl (Nat.le_of_ble_eq_true rfl) ⟨Nat.le_of_ble_eq_true rfl, Nat.le_of_ble_eq_true rfl⟩ ⟨rfl, rfl⟩ ⟨(Nat.le_of_ble_eq_true rfl), (Nat.le_of_ble_eq_true rfl)⟩ d_G_fillPlace_153 (fun r89 σ88 hr89 h => ?_)
                        refine v_iload cx 8 d_G_fillPlace_156 rfl ?_
                        refine v_iadd cx d_G_fillPlace_158 ?_
                        refine v_sb (lv' := [(0, .ref (ad 35)), (3, .int (zI k_)), (4, .int (zI w3)), (5, .int (zI r5)), (6, .int (zI y56)), (7, .int (zI y62)), (8, .int (zI y63)), (9, .int (zI w72))]) [0, 1, 2, 3, 4, 5, 6, 7] rfl ?_
                        obtain ⟨hJ2, hz90⟩ := h
                        exact G159 _ _ hJ2 hz90
                      · replace h := h.2 c87
                        refine v_ldc cx ct_G_46 d_G_fillPlace_145 ?_
                        refine v_goto cx 159 d_G_fillPlace_147 (by decide) ?_
                        refine v_sb (lv' := [(0, .ref (ad 35)), (3, .int (zI k_)), (4, .int (zI w3)), (5, .int (zI r5)), (6, .int (zI y56)), (7, .int (zI y62)), (8, .int (zI y63)), (9, .int (zI w72))]) [0, 1, 2, 3, 4, 5, 6, 7] rfl ?_
                        have hJ2 := h
                        exact G159 _ _ hJ2 ⟨by decide, by decide⟩
                    obtain ⟨J103, hJ103, h⟩ := h
                    have G103 : J103 → zV Ω Γ rm_G_fillPlace 11 Q 0 0 zLy ad σ73 103 [(0, .ref (ad 35)), (3, .int (zI k_)), (4, .int (zI w3)), (5, .int (zI r5)), (6, .int (zI y56)), (7, .int (zI y62)), (8, .int (zI y63)), (9, .int (zI w72))] [] := by
                      intro hJ
                      replace h := hJ103 hJ
                      refine v_iconst cx d_G_fillPlace_103 ?_
                      refine v_goto cx 125 d_G_fillPlace_104 (by decide) ?_
                      have hJ2 := h
                      exact G125 _ _ hJ2 ⟨by decide, by decide⟩
                    refine v_if_ne cx 103 d_G_fillPlace_94 (by decide) hw3 (fun c91 => ?_) (fun c91 => ?_)
                    · replace h := h.1 c91
                      have hJ2 := h
                      exact G103 hJ2 
                    · replace h := h.2 c91
                      refine v_iload cx 7 d_G_fillPlace_97 rfl ?_
                      refine v_iconst cx d_G_fillPlace_99 ?_
                      refine v_icmp_ne cx 107 d_G_fillPlace_100 (by decide) hw72 ⟨by decide, by decide⟩ (fun c92 => ?_) (fun c92 => ?_)
                      · replace h := h.1 c92
                        refine v_aload_n cx 0 d_G_fillPlace_107 rfl rfl ?_
                        refine gf_G_15 cx d_G_fillPlace_108 ?_
                        refine v_iload_n cx 1 d_G_fillPlace_111 rfl rfl ?_
                        refine v_iconst cx d_G_fillPlace_112 ?_
                        refine v_iadd cx d_G_fillPlace_113 ?_
                        refine v_iload cx 7 d_G_fillPlace_114 rfl ?_
                        refine v_iload cx 4 d_G_fillPlace_116 rfl ?_
                        refine v_iload cx 7 d_G_fillPlace_118 rfl ?_
                        refine v_iadd cx d_G_fillPlace_120 ?_
                        obtain ⟨hr93, h⟩ := h
                        obtain ⟨hr94, h⟩ := h
                        refine v_callSi0 (st := [.ref (ad 36)]) cx (s_G_cell hr93 hw72 hr94 h) yk_G_cell lk_G_47 rfl rfl (Nat.le_of_ble_eq_true rfl) ⟨Nat.le_of_ble_eq_true rfl, Nat.le_of_ble_eq_true rfl⟩ ⟨rfl, rfl⟩ ⟨(Nat.le_of_ble_eq_true rfl), (Nat.le_of_ble_eq_true rfl)⟩ d_G_fillPlace_121 (fun r96 σ95 hr96 h => ?_)
                        obtain ⟨hb97, h⟩ := h
                        refine v_iald cx zl_36 (by decide) hb97.1 hb97.2 d_G_fillPlace_124 (fun hl98 => ?_)
                        have hJ2 := h
                        exact G125 _ _ hJ2 hl98
                      · replace h := h.2 c92
                        have hJ2 := h
                        exact G103 hJ2 
                  refine v_if_eq cx 81 d_G_fillPlace_74 (by decide) hw3 (fun c99 => ?_) (fun c99 => ?_)
                  · replace h := h.1 c99
                    refine v_aload_n cx 0 d_G_fillPlace_81 rfl rfl ?_
                    refine v_iload_n cx 1 d_G_fillPlace_82 rfl rfl ?_
                    refine v_iload cx 6 d_G_fillPlace_83 rfl ?_
                    refine v_iload cx 4 d_G_fillPlace_85 rfl ?_
                    refine v_callVi0 (st := []) cx (s_G_bestNext hk_ hy63 hy56 h) yk_G_bestNext lk_G_57 zl_35 rfl rfl rfl (Nat.le_of_ble_eq_true rfl) ⟨Nat.le_of_ble_eq_true rfl, Nat.le_of_ble_eq_true rfl⟩ ⟨rfl, rfl⟩ ⟨(Nat.le_of_ble_eq_true rfl), (Nat.le_of_ble_eq_true rfl)⟩ d_G_fillPlace_87 (fun r101 σ100 hr101 h => ?_)
                    have hJ2 := h
                    exact G90 _ _ hJ2 hr101
                  · replace h := h.2 c99
                    refine v_iconst cx d_G_fillPlace_77 ?_
                    refine v_goto cx 90 d_G_fillPlace_78 (by decide) ?_
                    have hJ2 := h
                    exact G90 _ _ hJ2 ⟨by decide, by decide⟩
            exact L63 _ _ _ _ (Nat.lt_succ_self _) h0 ⟨by decide, by decide⟩ hi65
      exact L46 _ _ _ (Nat.lt_succ_self _) h0 hi58
  obtain ⟨hr102, h⟩ := h
  refine v_icmp_ne cx 18 d_G_fillPlace_11 (by decide) hr102 hr2 (fun c103 => ?_) (fun c103 => ?_)
  · replace h := h.1 c103
    refine v_iconst cx d_G_fillPlace_18 ?_
    have hJ2 := h
    exact G19 _ hJ2 ⟨by decide, by decide⟩
  · replace h := h.2 c103
    refine v_iconst cx d_G_fillPlace_14 ?_
    refine v_goto cx 19 d_G_fillPlace_15 (by decide) ?_
    have hJ2 := h
    exact G19 _ hJ2 ⟨by decide, by decide⟩
def q_G_leastEarth (which : Int) (rule : Int) (K : Int → zS → Prop) (σ : zS) : Prop :=
  q_L_value 7 (fun r2 σ1 =>
    ∀ σ3 : zS, σ3 = zU σ1 35 4 r2 → q_L_roadSize which (fun r5 σ4 =>
      ∀ x6 : Int, x6 = r5 - 1 → ∃ (I24 : Int → zS → Prop) (μ24 : Int → zS → Nat), (I24 x6 σ4 ∧ zR x6) ∧ ∀ (y7 : Int) (σ8 : zS), I24 y7 σ8 → zR y7 → 
      (y7 < 0 →
        ∀ x12 : Int, x12 = -(σ8 35 4) → ∃ (I51 : Int → Int → zS → Prop) (μ51 : Int → Int → zS → Nat), (I51 1000000000 x12 σ8 ∧ zR x12) ∧ ∀ (y13 y14 : Int) (σ15 : zS), I51 y13 y14 σ15 → zR y13 → zR y14 → 
        ((σ15 35 4) < y14 →
          (y13 < 1000000000 →
            K y13 σ15) ∧ (1000000000 ≤ y13 →
            K (-1) σ15)) ∧ (y14 ≤ (σ15 35 4) →
          q_G_cell 0 y14 y14 (fun r21 σ20 =>
            (0 ≤ r21 ∧ r21 < 2114) ∧ (∀ x24 : Int, x24 = σ20 36 r21 → (y13 ≤ x24 →
                I51 y13 (y14 + 1) σ20 ∧ zR (y14 + 1) ∧ μ51 y13 (y14 + 1) σ20 < μ51 y13 y14 σ15) ∧ (x24 < y13 →
                ∀ σ28 : zS, σ28 = zU σ20 35 3 y14 → I51 x24 (y14 + 1) σ28 ∧ zR (y14 + 1) ∧ μ51 x24 (y14 + 1) σ28 < μ51 y13 y14 σ15))) σ15)) ∧ (0 ≤ y7 →
        q_G_fillPlace which rule y7 (fun σ31 =>
          I24 (y7 + (-1)) σ31 ∧ zR (y7 + (-1)) ∧ μ24 (y7 + (-1)) σ31 < μ24 y7 σ8) σ8)) σ3) σ
abbrev rm_G_leastEarth : Room := { frames := 4, cells := 0, slots := 0, locals := 98 }
set_option maxRecDepth 20000 in
set_option maxHeartbeats 4000000 in
theorem s_G_leastEarth {Ω : zO} {ad : Nat → Nat} {which : Int} {rule : Int} {K : Int → zS → Prop} {σ : zS} (hwhich : zR which) (hrule : zR rule) (h : q_G_leastEarth which rule K σ) : zMi Ω y_G_leastEarth (.code y_G_leastEarth c_G_leastEarth 6 (some .int)) rm_G_leastEarth zLy ad [.ref (ad 35), .int (zI which), .int (zI rule)] σ K := by
  refine z_ofi (lv := [(0, .ref (ad 35)), (1, .int (zI which)), (2, .int (zI rule))]) (by decide) rfl (Nat.le_of_ble_eq_true rfl) ?_
  intro Γ Q cx rt
  unfold q_G_leastEarth at h
  refine v_aload_n cx 0 d_G_leastEarth_0 rfl rfl ?_
  refine v_aload_n cx 0 d_G_leastEarth_1 rfl rfl ?_
  refine gf_G_11 cx d_G_leastEarth_2 ?_
  refine v_bipush cx (by decide) d_G_leastEarth_5 ?_
  refine v_callVi0 (st := [.ref (ad 35)]) cx (s_L_value ⟨by decide, by decide⟩ h) yk_L_value lk_G_30 zl_3 rfl rfl rfl (Nat.le_of_ble_eq_true rfl) ⟨Nat.le_of_ble_eq_true rfl, Nat.le_of_ble_eq_true rfl⟩ ⟨rfl, rfl⟩ ⟨(Nat.le_of_ble_eq_true rfl), (Nat.le_of_ble_eq_true rfl)⟩ d_G_leastEarth_7 (fun r2 σ1 hr2 h => ?_)
  refine pf_G_36 cx hr2 d_G_leastEarth_10 ?_
  refine v_ns (fun σ3 eσ3 => ?_)
  replace h := h σ3 eσ3
  refine v_aload_n cx 0 d_G_leastEarth_13 rfl rfl ?_
  refine gf_G_11 cx d_G_leastEarth_14 ?_
  refine v_iload_n cx 1 d_G_leastEarth_17 rfl rfl ?_
  refine v_callVi0 (st := []) cx (s_L_roadSize hwhich h) yk_L_roadSize lk_G_39 zl_3 rfl rfl rfl (Nat.le_of_ble_eq_true rfl) ⟨Nat.le_of_ble_eq_true rfl, Nat.le_of_ble_eq_true rfl⟩ ⟨rfl, rfl⟩ ⟨(Nat.le_of_ble_eq_true rfl), (Nat.le_of_ble_eq_true rfl)⟩ d_G_leastEarth_18 (fun r5 σ4 hr5 h => ?_)
  refine v_iconst cx d_G_leastEarth_21 ?_
  refine v_isub cx d_G_leastEarth_22 ?_
  refine v_nm (fun x6 ex6 => ?_)
  replace h := h x6 ex6
  refine v_istore_n (lv' := [(0, .ref (ad 35)), (1, .int (zI which)), (2, .int (zI rule)), (3, .int (zI x6))]) cx d_G_leastEarth_23 rfl (by decide) rfl rfl ?_
  obtain ⟨I24, μ24, h0, h⟩ := h
  obtain ⟨h0, hi9⟩ := h0
  have L24 : ∀ (N24 : Nat) (y7 : Int) (σ8 : zS), μ24 y7 σ8 < N24 → I24 y7 σ8 → zR y7 → zV Ω Γ rm_G_leastEarth 6 Q 0 0 zLy ad σ8 24 [(0, .ref (ad 35)), (1, .int (zI which)), (2, .int (zI rule)), (3, .int (zI y7))] [] := by
    intro N24
    induction N24 with
    | zero => intro y7 σ8 hm; exact absurd hm (Nat.not_lt_zero _)
    | succ N24 ih24 =>
      intro y7 σ8 hmm24 hI hy7
      replace h := h y7 σ8 hI hy7
      refine v_iload_n cx 3 d_G_leastEarth_24 rfl rfl ?_
      refine v_if_lt cx 41 d_G_leastEarth_25 (by decide) hy7 (fun c10 => ?_) (fun c10 => ?_)
      · replace h := h.1 c10
        refine v_ldc cx ct_G_46 d_G_leastEarth_41 ?_
        refine v_istore_n (lv' := [(0, .ref (ad 35)), (1, .int (zI which)), (2, .int (zI rule)), (3, .int (zI 1000000000))]) cx d_G_leastEarth_43 rfl (by decide) rfl rfl ?_
        refine v_aload_n cx 0 d_G_leastEarth_44 rfl rfl ?_
        refine gf_G_36 cx d_G_leastEarth_45 (fun hl11 => ?_)
        refine v_ineg cx d_G_leastEarth_48 ?_
        refine v_nm (fun x12 ex12 => ?_)
        replace h := h x12 ex12
        refine v_istore (lv' := [(0, .ref (ad 35)), (1, .int (zI which)), (2, .int (zI rule)), (3, .int (zI 1000000000)), (4, .int (zI x12))]) cx d_G_leastEarth_49 (by decide) rfl rfl ?_
        refine v_sb (lv' := [(0, .ref (ad 35)), (3, .int (zI 1000000000)), (4, .int (zI x12))]) [0, 3, 4] rfl ?_
        obtain ⟨I51, μ51, h0, h⟩ := h
        obtain ⟨h0, hi16⟩ := h0
        have L51 : ∀ (N51 : Nat) (y13 y14 : Int) (σ15 : zS), μ51 y13 y14 σ15 < N51 → I51 y13 y14 σ15 → zR y13 → zR y14 → zV Ω Γ rm_G_leastEarth 6 Q 0 0 zLy ad σ15 51 [(0, .ref (ad 35)), (3, .int (zI y13)), (4, .int (zI y14))] [] := by
          intro N51
          induction N51 with
          | zero => intro y13 y14 σ15 hm; exact absurd hm (Nat.not_lt_zero _)
          | succ N51 ih51 =>
            intro y13 y14 σ15 hmm51 hI hy13 hy14
            replace h := h y13 y14 σ15 hI hy13 hy14
            refine v_iload cx 2 d_G_leastEarth_51 rfl ?_
            refine v_aload_n cx 0 d_G_leastEarth_53 rfl rfl ?_
            refine gf_G_36 cx d_G_leastEarth_54 (fun hl17 => ?_)
            refine v_icmp_gt cx 96 d_G_leastEarth_57 (by decide) hy14 hl17 (fun c18 => ?_) (fun c18 => ?_)
            · replace h := h.1 c18
              refine v_iload_n cx 1 d_G_leastEarth_96 rfl rfl ?_
              refine v_ldc cx ct_G_46 d_G_leastEarth_97 ?_
              refine v_icmp_lt cx 106 d_G_leastEarth_99 (by decide) hy13 ⟨by decide, by decide⟩ (fun c19 => ?_) (fun c19 => ?_)
              · replace h := h.1 c19
                refine v_iload_n cx 1 d_G_leastEarth_106 rfl rfl ?_
                exact rt _ _ _ _ _ _ (Nat.le_of_ble_eq_true rfl) (Nat.le_of_ble_eq_true rfl) d_G_leastEarth_107 hy13 h
              · replace h := h.2 c19
                refine v_iconst cx d_G_leastEarth_102 ?_
                refine v_goto cx 107 d_G_leastEarth_103 (by decide) ?_
                exact rt _ _ _ _ _ _ (Nat.le_of_ble_eq_true rfl) (Nat.le_of_ble_eq_true rfl) d_G_leastEarth_107 ⟨by decide, by decide⟩ h
            · replace h := h.2 c18
              refine v_aload_n cx 0 d_G_leastEarth_60 rfl rfl ?_
              refine gf_G_15 cx d_G_leastEarth_61 ?_
              refine v_iconst cx d_G_leastEarth_64 ?_
              refine v_iload cx 2 d_G_leastEarth_65 rfl ?_
              refine v_iload cx 2 d_G_leastEarth_67 rfl ?_
              refine v_callSi0 (st := [.ref (ad 36)]) cx (s_G_cell ⟨by decide, by decide⟩ hy14 hy14 h) yk_G_cell lk_G_47 rfl rfl (Nat.le_of_ble_eq_true rfl) ⟨Nat.le_of_ble_eq_true rfl, Nat.le_of_ble_eq_true rfl⟩ ⟨rfl, rfl⟩ ⟨(Nat.le_of_ble_eq_true rfl), (Nat.le_of_ble_eq_true rfl)⟩ d_G_leastEarth_69 (fun r21 σ20 hr21 h => ?_)
              obtain ⟨hb22, h⟩ := h
              refine v_iald cx zl_36 (by decide) hb22.1 hb22.2 d_G_leastEarth_72 (fun hl23 => ?_)
              refine v_nm (fun x24 ex24 => ?_)
              replace h := h x24 ex24
              have hx24 : zR x24 := by rw [ex24]; exact hl23
              refine v_istore (lv' := [(0, .ref (ad 35)), (3, .int (zI y13)), (4, .int (zI y14)), (5, .int (zI x24))]) cx d_G_leastEarth_73 (by decide) rfl rfl ?_
              refine v_iload cx 3 d_G_leastEarth_75 rfl ?_
              refine v_iload_n cx 1 d_G_leastEarth_77 rfl rfl ?_
              refine v_icmp_ge cx 90 d_G_leastEarth_78 (by decide) hx24 hy13 (fun c25 => ?_) (fun c25 => ?_)
              · replace h := h.1 c25
                refine v_iinc (lv' := [(0, .ref (ad 35)), (3, .int (zI y13)), (4, .int (zI (y14 + 1))), (5, .int (zI x24))]) cx 2 d_G_leastEarth_90 rfl (by decide) rfl rfl ?_
                refine v_goto cx 51 d_G_leastEarth_93 (by decide) ?_
                refine v_sb (lv' := [(0, .ref (ad 35)), (3, .int (zI y13)), (4, .int (zI (y14 + 1)))]) [0, 1, 2] rfl ?_
                obtain ⟨hI2, hz27, hm2⟩ := h
                exact ih51 _ _ _ (Nat.lt_of_lt_of_le hm2 (Nat.le_of_lt_succ hmm51)) hI2 hy13 hz27
              · replace h := h.2 c25
                refine v_iload cx 3 d_G_leastEarth_81 rfl ?_
                refine v_istore_n (lv' := [(0, .ref (ad 35)), (3, .int (zI x24)), (4, .int (zI y14)), (5, .int (zI x24))]) cx d_G_leastEarth_83 rfl (by decide) rfl rfl ?_
                refine v_aload_n cx 0 d_G_leastEarth_84 rfl rfl ?_
                refine v_iload cx 2 d_G_leastEarth_85 rfl ?_
                refine pf_G_22 cx hy14 d_G_leastEarth_87 ?_
                refine v_ns (fun σ28 eσ28 => ?_)
                replace h := h σ28 eσ28
                refine v_iinc (lv' := [(0, .ref (ad 35)), (3, .int (zI x24)), (4, .int (zI (y14 + 1))), (5, .int (zI x24))]) cx 2 d_G_leastEarth_90 rfl (by decide) rfl rfl ?_
                refine v_goto cx 51 d_G_leastEarth_93 (by decide) ?_
                refine v_sb (lv' := [(0, .ref (ad 35)), (3, .int (zI x24)), (4, .int (zI (y14 + 1)))]) [0, 1, 2] rfl ?_
                obtain ⟨hI2, hz30, hm2⟩ := h
                exact ih51 _ _ _ (Nat.lt_of_lt_of_le hm2 (Nat.le_of_lt_succ hmm51)) hI2 hx24 hz30
        exact L51 _ _ _ _ (Nat.lt_succ_self _) h0 ⟨by decide, by decide⟩ hi16
      · replace h := h.2 c10
        refine v_aload_n cx 0 d_G_leastEarth_28 rfl rfl ?_
        refine v_iload_n cx 1 d_G_leastEarth_29 rfl rfl ?_
        refine v_iload_n cx 2 d_G_leastEarth_30 rfl rfl ?_
        refine v_iload_n cx 3 d_G_leastEarth_31 rfl rfl ?_
        refine v_callVv0 (st := []) cx (s_G_fillPlace hwhich hrule hy7 h) yk_G_fillPlace lk_G_42 zl_35 rfl rfl rfl (Nat.le_of_ble_eq_true rfl) ⟨Nat.le_of_ble_eq_true rfl, Nat.le_of_ble_eq_true rfl⟩ ⟨rfl, rfl⟩ ⟨(Nat.le_of_ble_eq_true rfl), (Nat.le_of_ble_eq_true rfl)⟩ d_G_leastEarth_32 (fun σ31 h => ?_)
        refine v_iinc (lv' := [(0, .ref (ad 35)), (1, .int (zI which)), (2, .int (zI rule)), (3, .int (zI (y7 + (-1))))]) cx 3 d_G_leastEarth_35 rfl (by decide) rfl rfl ?_
        refine v_goto cx 24 d_G_leastEarth_38 (by decide) ?_
        obtain ⟨hI2, hz33, hm2⟩ := h
        exact ih24 _ _ (Nat.lt_of_lt_of_le hm2 (Nat.le_of_lt_succ hmm24)) hI2 hz33
  exact L24 _ _ _ (Nat.lt_succ_self _) h0 hi9
def q_G_leastRule (which : Int) (K : Int → zS → Prop) (σ : zS) : Prop :=
  q_G_leastEarth which 99 (fun r2 σ1 =>
    (r2 ≠ (-1) →
      ∃ (I18 : Int → Int → zS → Prop) (μ18 : Int → Int → zS → Nat), (I18 0 99 σ1) ∧ ∀ (y4 y5 : Int) (σ6 : zS), I18 y4 y5 σ6 → zR y4 → zR y5 → 
      (y5 ≤ y4 →
        K y5 σ6) ∧ (y4 < y5 →
        zR (y4 + y5) ∧ (∀ x9 : Int, x9 = Int.tdiv (y4 + y5) 2 → zR x9 ∧ (q_G_leastEarth which x9 (fun r12 σ11 =>
              (r12 ≠ (-1) →
                I18 y4 x9 σ11 ∧ μ18 y4 x9 σ11 < μ18 y4 y5 σ6) ∧ (r12 = (-1) →
                ∀ x14 : Int, x14 = x9 + 1 → I18 x14 y5 σ11 ∧ zR x14 ∧ μ18 x14 y5 σ11 < μ18 y4 y5 σ6)) σ6)))) ∧ (r2 = (-1) →
      K (-1) σ1)) σ
abbrev rm_G_leastRule : Room := { frames := 5, cells := 0, slots := 0, locals := 123 }
set_option maxRecDepth 20000 in
set_option maxHeartbeats 4000000 in
theorem s_G_leastRule {Ω : zO} {ad : Nat → Nat} {which : Int} {K : Int → zS → Prop} {σ : zS} (hwhich : zR which) (h : q_G_leastRule which K σ) : zMi Ω y_G_leastRule (.code y_G_leastRule c_G_leastRule 5 (some .int)) rm_G_leastRule zLy ad [.ref (ad 35), .int (zI which)] σ K := by
  refine z_ofi (lv := [(0, .ref (ad 35)), (1, .int (zI which))]) (by decide) rfl (Nat.le_of_ble_eq_true rfl) ?_
  intro Γ Q cx rt
  unfold q_G_leastRule at h
  refine v_aload_n cx 0 d_G_leastRule_0 rfl rfl ?_
  refine v_iload_n cx 1 d_G_leastRule_1 rfl rfl ?_
  refine v_bipush cx (by decide) d_G_leastRule_2 ?_
  refine v_callVi0 (st := []) cx (s_G_leastEarth hwhich ⟨by decide, by decide⟩ h) yk_G_leastEarth lk_G_26 zl_35 rfl rfl rfl (Nat.le_of_ble_eq_true rfl) ⟨Nat.le_of_ble_eq_true rfl, Nat.le_of_ble_eq_true rfl⟩ ⟨rfl, rfl⟩ ⟨(Nat.le_of_ble_eq_true rfl), (Nat.le_of_ble_eq_true rfl)⟩ d_G_leastRule_4 (fun r2 σ1 hr2 h => ?_)
  refine v_iconst cx d_G_leastRule_7 ?_
  refine v_icmp_ne cx 13 d_G_leastRule_8 (by decide) hr2 ⟨by decide, by decide⟩ (fun c3 => ?_) (fun c3 => ?_)
  · replace h := h.1 c3
    refine v_iconst cx d_G_leastRule_13 ?_
    refine v_istore_n (lv' := [(0, .ref (ad 35)), (1, .int (zI which)), (2, .int (zI 0))]) cx d_G_leastRule_14 rfl (by decide) rfl rfl ?_
    refine v_bipush cx (by decide) d_G_leastRule_15 ?_
    refine v_istore_n (lv' := [(0, .ref (ad 35)), (1, .int (zI which)), (2, .int (zI 0)), (3, .int (zI 99))]) cx d_G_leastRule_17 rfl (by decide) rfl rfl ?_
    obtain ⟨I18, μ18, h0, h⟩ := h
    have L18 : ∀ (N18 : Nat) (y4 y5 : Int) (σ6 : zS), μ18 y4 y5 σ6 < N18 → I18 y4 y5 σ6 → zR y4 → zR y5 → zV Ω Γ rm_G_leastRule 5 Q 0 0 zLy ad σ6 18 [(0, .ref (ad 35)), (1, .int (zI which)), (2, .int (zI y4)), (3, .int (zI y5))] [] := by
      intro N18
      induction N18 with
      | zero => intro y4 y5 σ6 hm; exact absurd hm (Nat.not_lt_zero _)
      | succ N18 ih18 =>
        intro y4 y5 σ6 hmm18 hI hy4 hy5
        replace h := h y4 y5 σ6 hI hy4 hy5
        refine v_iload_n cx 2 d_G_leastRule_18 rfl rfl ?_
        refine v_iload_n cx 3 d_G_leastRule_19 rfl rfl ?_
        refine v_icmp_ge cx 55 d_G_leastRule_20 (by decide) hy4 hy5 (fun c7 => ?_) (fun c7 => ?_)
        · replace h := h.1 c7
          refine v_iload_n cx 3 d_G_leastRule_55 rfl rfl ?_
          exact rt _ _ _ _ _ _ (Nat.le_of_ble_eq_true rfl) (Nat.le_of_ble_eq_true rfl) d_G_leastRule_56 hy5 h
        · replace h := h.2 c7
          refine v_iload_n cx 2 d_G_leastRule_23 rfl rfl ?_
          refine v_iload_n cx 3 d_G_leastRule_24 rfl rfl ?_
          refine v_iadd cx d_G_leastRule_25 ?_
          refine v_iconst cx d_G_leastRule_26 ?_
          obtain ⟨hr8, h⟩ := h
          refine v_idiv cx d_G_leastRule_27 hr8 ⟨by decide, by decide⟩ (by decide) (Or.inr (by decide)) ?_
          refine v_nm (fun x9 ex9 => ?_)
          replace h := h x9 ex9
          refine v_istore (lv' := [(0, .ref (ad 35)), (1, .int (zI which)), (2, .int (zI y4)), (3, .int (zI y5)), (4, .int (zI x9))]) cx d_G_leastRule_28 (by decide) rfl rfl ?_
          refine v_aload_n cx 0 d_G_leastRule_30 rfl rfl ?_
          refine v_iload_n cx 1 d_G_leastRule_31 rfl rfl ?_
          refine v_iload cx 4 d_G_leastRule_32 rfl ?_
          obtain ⟨hr10, h⟩ := h
          refine v_callVi0 (st := []) cx (s_G_leastEarth hwhich hr10 h) yk_G_leastEarth lk_G_26 zl_35 rfl rfl rfl (Nat.le_of_ble_eq_true rfl) ⟨Nat.le_of_ble_eq_true rfl, Nat.le_of_ble_eq_true rfl⟩ ⟨rfl, rfl⟩ ⟨(Nat.le_of_ble_eq_true rfl), (Nat.le_of_ble_eq_true rfl)⟩ d_G_leastRule_34 (fun r12 σ11 hr12 h => ?_)
          refine v_iconst cx d_G_leastRule_37 ?_
          refine v_icmp_ne cx 49 d_G_leastRule_38 (by decide) hr12 ⟨by decide, by decide⟩ (fun c13 => ?_) (fun c13 => ?_)
          · replace h := h.1 c13
            refine v_iload cx 4 d_G_leastRule_49 rfl ?_
            refine v_istore_n (lv' := [(0, .ref (ad 35)), (1, .int (zI which)), (2, .int (zI y4)), (3, .int (zI x9)), (4, .int (zI x9))]) cx d_G_leastRule_51 rfl (by decide) rfl rfl ?_
            refine v_goto cx 18 d_G_leastRule_52 (by decide) ?_
            refine v_sb (lv' := [(0, .ref (ad 35)), (1, .int (zI which)), (2, .int (zI y4)), (3, .int (zI x9))]) [0, 1, 2, 3] rfl ?_
            obtain ⟨hI2, hm2⟩ := h
            exact ih18 _ _ _ (Nat.lt_of_lt_of_le hm2 (Nat.le_of_lt_succ hmm18)) hI2 hy4 hr10
          · replace h := h.2 c13
            refine v_iload cx 4 d_G_leastRule_41 rfl ?_
            refine v_iconst cx d_G_leastRule_43 ?_
            refine v_iadd cx d_G_leastRule_44 ?_
            refine v_nm (fun x14 ex14 => ?_)
            replace h := h x14 ex14
            refine v_istore_n (lv' := [(0, .ref (ad 35)), (1, .int (zI which)), (2, .int (zI x14)), (3, .int (zI y5)), (4, .int (zI x9))]) cx d_G_leastRule_45 rfl (by decide) rfl rfl ?_
            refine v_goto cx 52 d_G_leastRule_46 (by decide) ?_
            refine v_goto cx 18 d_G_leastRule_52 (by decide) ?_
            refine v_sb (lv' := [(0, .ref (ad 35)), (1, .int (zI which)), (2, .int (zI x14)), (3, .int (zI y5))]) [0, 1, 2, 3] rfl ?_
            obtain ⟨hI2, hz15, hm2⟩ := h
            exact ih18 _ _ _ (Nat.lt_of_lt_of_le hm2 (Nat.le_of_lt_succ hmm18)) hI2 hz15 hy5
    exact L18 _ _ _ _ (Nat.lt_succ_self _) h0 ⟨by decide, by decide⟩ ⟨by decide, by decide⟩
  · replace h := h.2 c3
    refine v_iconst cx d_G_leastRule_11 ?_
    exact rt _ _ _ _ _ _ (Nat.le_of_ble_eq_true rfl) (Nat.le_of_ble_eq_true rfl) d_G_leastRule_12 ⟨by decide, by decide⟩ h
def q_G_settle (which : Int) (K : zS → Prop) (σ : zS) : Prop :=
  ∀ x2 : Int, x2 = σ 35 3 → ∃ (I10 : Int → Int → Int → zS → Prop) (μ10 : Int → Int → Int → zS → Nat), (I10 x2 0 0 σ) ∧ ∀ (y3 y4 y5 : Int) (σ6 : zS), I10 y3 y4 y5 σ6 → zR y3 → zR y4 → zR y5 → 
  q_L_roadSize which (fun r8 σ7 =>
    (r8 ≤ y5 →
      K σ7) ∧ (y5 < r8 →
      q_L_setRoadOffset which y5 y3 (fun σ10 =>
        ∀ x11 : Int, x11 = y4 + y3 → (0 ≤ ((y5 * 151) + x11) + 75 ∧ ((y5 * 151) + x11) + 75 < 6040) ∧ (q_G_choiceShift y3 (fun r15 σ14 =>
            ∀ x16 : Int, x16 = (zAnd (zShr (σ10 37 (((y5 * 151) + x11) + 75)) r15) 7) - 3 → I10 x16 x11 (y5 + 1) σ14 ∧ zR x16 ∧ zR x11 ∧ zR (y5 + 1) ∧ μ10 x16 x11 (y5 + 1) σ14 < μ10 y3 y4 y5 σ6) σ10)) σ7)) σ6
abbrev rm_G_settle : Room := { frames := 1, cells := 0, slots := 0, locals := 23 }
set_option maxRecDepth 20000 in
set_option maxHeartbeats 4000000 in
theorem s_G_settle {Ω : zO} {ad : Nat → Nat} {which : Int} {K : zS → Prop} {σ : zS} (hwhich : zR which) (h : q_G_settle which K σ) : zMv Ω y_G_settle (.code y_G_settle c_G_settle 5 none) rm_G_settle zLy ad [.ref (ad 35), .int (zI which)] σ K := by
  refine z_ofv (lv := [(0, .ref (ad 35)), (1, .int (zI which))]) (by decide) rfl (Nat.le_of_ble_eq_true rfl) ?_
  intro Γ Q cx rt
  unfold q_G_settle at h
  refine v_aload_n cx 0 d_G_settle_0 rfl rfl ?_
  refine gf_G_22 cx d_G_settle_1 (fun hl1 => ?_)
  refine v_nm (fun x2 ex2 => ?_)
  replace h := h x2 ex2
  have hx2 : zR x2 := by rw [ex2]; exact hl1
  refine v_istore_n (lv' := [(0, .ref (ad 35)), (1, .int (zI which)), (2, .int (zI x2))]) cx d_G_settle_4 rfl (by decide) rfl rfl ?_
  refine v_iconst cx d_G_settle_5 ?_
  refine v_istore_n (lv' := [(0, .ref (ad 35)), (1, .int (zI which)), (2, .int (zI x2)), (3, .int (zI 0))]) cx d_G_settle_6 rfl (by decide) rfl rfl ?_
  refine v_iconst cx d_G_settle_7 ?_
  refine v_istore (lv' := [(0, .ref (ad 35)), (1, .int (zI which)), (2, .int (zI x2)), (3, .int (zI 0)), (4, .int (zI 0))]) cx d_G_settle_8 (by decide) rfl rfl ?_
  obtain ⟨I10, μ10, h0, h⟩ := h
  have L10 : ∀ (N10 : Nat) (y3 y4 y5 : Int) (σ6 : zS), μ10 y3 y4 y5 σ6 < N10 → I10 y3 y4 y5 σ6 → zR y3 → zR y4 → zR y5 → zV Ω Γ rm_G_settle 5 Q 0 0 zLy ad σ6 10 [(0, .ref (ad 35)), (1, .int (zI which)), (2, .int (zI y3)), (3, .int (zI y4)), (4, .int (zI y5))] [] := by
    intro N10
    induction N10 with
    | zero => intro y3 y4 y5 σ6 hm; exact absurd hm (Nat.not_lt_zero _)
    | succ N10 ih10 =>
      intro y3 y4 y5 σ6 hmm10 hI hy3 hy4 hy5
      replace h := h y3 y4 y5 σ6 hI hy3 hy4 hy5
      refine v_iload cx 4 d_G_settle_10 rfl ?_
      refine v_aload_n cx 0 d_G_settle_12 rfl rfl ?_
      refine gf_G_11 cx d_G_settle_13 ?_
      refine v_iload_n cx 1 d_G_settle_16 rfl rfl ?_
      refine v_callVi0 (st := [.int (zI y5)]) cx (s_L_roadSize hwhich h) yk_L_roadSize lk_G_39 zl_3 rfl rfl rfl (Nat.le_of_ble_eq_true rfl) ⟨Nat.le_of_ble_eq_true rfl, Nat.le_of_ble_eq_true rfl⟩ ⟨rfl, rfl⟩ ⟨(Nat.le_of_ble_eq_true rfl), (Nat.le_of_ble_eq_true rfl)⟩ d_G_settle_17 (fun r8 σ7 hr8 h => ?_)
      refine v_icmp_ge cx 71 d_G_settle_20 (by decide) hy5 hr8 (fun c9 => ?_) (fun c9 => ?_)
      · replace h := h.1 c9
        exact rt _ _ _ _ _ (Nat.le_of_ble_eq_true rfl) (Nat.le_of_ble_eq_true rfl) d_G_settle_71 h
      · replace h := h.2 c9
        refine v_aload_n cx 0 d_G_settle_23 rfl rfl ?_
        refine gf_G_11 cx d_G_settle_24 ?_
        refine v_iload_n cx 1 d_G_settle_27 rfl rfl ?_
        refine v_iload cx 4 d_G_settle_28 rfl ?_
        refine v_iload_n cx 2 d_G_settle_30 rfl rfl ?_
        refine v_callVv0 (st := []) cx (s_L_setRoadOffset hwhich hy5 hy3 h) yk_L_setRoadOffset lk_G_95 zl_3 rfl rfl rfl (Nat.le_of_ble_eq_true rfl) ⟨Nat.le_of_ble_eq_true rfl, Nat.le_of_ble_eq_true rfl⟩ ⟨rfl, rfl⟩ ⟨(Nat.le_of_ble_eq_true rfl), (Nat.le_of_ble_eq_true rfl)⟩ d_G_settle_31 (fun σ10 h => ?_)
        refine v_iload_n cx 3 d_G_settle_34 rfl rfl ?_
        refine v_iload_n cx 2 d_G_settle_35 rfl rfl ?_
        refine v_iadd cx d_G_settle_36 ?_
        refine v_nm (fun x11 ex11 => ?_)
        replace h := h x11 ex11
        refine v_istore_n (lv' := [(0, .ref (ad 35)), (1, .int (zI which)), (2, .int (zI y3)), (3, .int (zI x11)), (4, .int (zI y5))]) cx d_G_settle_37 rfl (by decide) rfl rfl ?_
        refine v_aload_n cx 0 d_G_settle_38 rfl rfl ?_
        refine gf_G_19 cx d_G_settle_39 ?_
        refine v_iload cx 4 d_G_settle_42 rfl ?_
        refine v_sipush cx (by decide) d_G_settle_44 ?_
        refine v_imul cx d_G_settle_47 ?_
        refine v_iload_n cx 3 d_G_settle_48 rfl rfl ?_
        refine v_iadd cx d_G_settle_49 ?_
        refine v_bipush cx (by decide) d_G_settle_50 ?_
        refine v_iadd cx d_G_settle_52 ?_
        obtain ⟨hb12, h⟩ := h
        refine v_iald cx zl_37 (by decide) hb12.1 hb12.2 d_G_settle_53 (fun hl13 => ?_)
        refine v_iload_n cx 2 d_G_settle_54 rfl rfl ?_
        refine v_callSi0 (st := [.int (zI (σ10 37 (((y5 * 151) + x11) + 75)))]) cx (s_G_choiceShift hy3 h) yk_G_choiceShift lk_G_63 rfl rfl (Nat.le_of_ble_eq_true rfl) ⟨Nat.le_of_ble_eq_true rfl, Nat.le_of_ble_eq_true rfl⟩ ⟨rfl, rfl⟩ ⟨(Nat.le_of_ble_eq_true rfl), (Nat.le_of_ble_eq_true rfl)⟩ d_G_settle_55 (fun r15 σ14 hr15 h => ?_)
        refine v_ishr cx d_G_settle_58 ?_
        refine v_bipush cx (by decide) d_G_settle_59 ?_
        refine v_iand cx d_G_settle_61 ?_
        refine v_iconst cx d_G_settle_62 ?_
        refine v_isub cx d_G_settle_63 ?_
        refine v_nm (fun x16 ex16 => ?_)
        replace h := h x16 ex16
        refine v_istore_n (lv' := [(0, .ref (ad 35)), (1, .int (zI which)), (2, .int (zI x16)), (3, .int (zI x11)), (4, .int (zI y5))]) cx d_G_settle_64 rfl (by decide) rfl rfl ?_
        refine v_iinc (lv' := [(0, .ref (ad 35)), (1, .int (zI which)), (2, .int (zI x16)), (3, .int (zI x11)), (4, .int (zI (y5 + 1)))]) cx 4 d_G_settle_65 rfl (by decide) rfl rfl ?_
        refine v_goto cx 10 d_G_settle_68 (by decide) ?_
        obtain ⟨hI2, hz18, hz19, hz20, hm2⟩ := h
        exact ih10 _ _ _ _ (Nat.lt_of_lt_of_le hm2 (Nat.le_of_lt_succ hmm10)) hI2 hz18 hz19 hz20
  exact L10 _ _ _ _ _ (Nat.lt_succ_self _) h0 hx2 ⟨by decide, by decide⟩ ⟨by decide, by decide⟩
def q_U_steps (which : Int) (K : Int → zS → Prop) (σ : zS) : Prop :=
  q_L_roadSize which (fun r2 σ1 =>
    zR (r2 - 1) ∧ (K (r2 - 1) σ1)) σ
abbrev rm_U_steps : Room := { frames := 1, cells := 0, slots := 0, locals := 21 }
set_option maxRecDepth 20000 in
set_option maxHeartbeats 4000000 in
theorem s_U_steps {Ω : zO} {ad : Nat → Nat} {which : Int} {K : Int → zS → Prop} {σ : zS} (hwhich : zR which) (h : q_U_steps which K σ) : zMi Ω y_U_steps (.code y_U_steps c_U_steps 2 (some .int)) rm_U_steps zLy ad [.ref (ad 38), .int (zI which)] σ K := by
  refine z_ofi (lv := [(0, .ref (ad 38)), (1, .int (zI which))]) (by decide) rfl (Nat.le_of_ble_eq_true rfl) ?_
  intro Γ Q cx rt
  unfold q_U_steps at h
  refine v_aload_n cx 0 d_U_steps_0 rfl rfl ?_
  refine gf_U_9 cx d_U_steps_1 ?_
  refine v_iload_n cx 1 d_U_steps_4 rfl rfl ?_
  refine v_callVi0 (st := []) cx (s_L_roadSize hwhich h) yk_L_roadSize lk_U_27 zl_3 rfl rfl rfl (Nat.le_of_ble_eq_true rfl) ⟨Nat.le_of_ble_eq_true rfl, Nat.le_of_ble_eq_true rfl⟩ ⟨rfl, rfl⟩ ⟨(Nat.le_of_ble_eq_true rfl), (Nat.le_of_ble_eq_true rfl)⟩ d_U_steps_5 (fun r2 σ1 hr2 h => ?_)
  refine v_iconst cx d_U_steps_8 ?_
  refine v_isub cx d_U_steps_9 ?_
  obtain ⟨hr3, h⟩ := h
  exact rt _ _ _ _ _ _ (Nat.le_of_ble_eq_true rfl) (Nat.le_of_ble_eq_true rfl) d_U_steps_10 hr3 h
def q_U_climbed (which : Int) (sign : Int) (K : Int → zS → Prop) (σ : zS) : Prop :=
  ∃ (I5 : Int → Int → zS → Prop) (μ5 : Int → Int → zS → Nat), (I5 0 0 σ) ∧ ∀ (y1 y2 : Int) (σ3 : zS), I5 y1 y2 σ3 → zR y1 → zR y2 → 
  q_U_steps which (fun r5 σ4 =>
    (r5 ≤ y2 →
      K y1 σ4) ∧ (y2 < r5 →
      zR (y2 + 1) ∧ (q_L_roadPlace which (y2 + 1) (fun r9 σ8 =>
          q_L_height r9 (fun r11 σ10 =>
            q_L_roadPlace which y2 (fun r13 σ12 =>
              q_L_height r13 (fun r15 σ14 =>
                ∀ x16 : Int, x16 = r11 - r15 → zR (sign * x16) ∧ (∀ x19 : Int, x19 = y1 + (max 0 (sign * x16)) → I5 x19 (y2 + 1) σ14 ∧ zR x19 ∧ μ5 x19 (y2 + 1) σ14 < μ5 y1 y2 σ3)) σ12) σ10) σ8) σ4))) σ3
abbrev rm_U_climbed : Room := { frames := 2, cells := 0, slots := 0, locals := 42 }
set_option maxRecDepth 20000 in
set_option maxHeartbeats 4000000 in
theorem s_U_climbed {Ω : zO} {ad : Nat → Nat} {which : Int} {sign : Int} {K : Int → zS → Prop} {σ : zS} (hwhich : zR which) (hsign : zR sign) (h : q_U_climbed which sign K σ) : zMi Ω y_U_climbed (.code y_U_climbed c_U_climbed 6 (some .int)) rm_U_climbed zLy ad [.ref (ad 38), .int (zI which), .int (zI sign)] σ K := by
  refine z_ofi (lv := [(0, .ref (ad 38)), (1, .int (zI which)), (2, .int (zI sign))]) (by decide) rfl (Nat.le_of_ble_eq_true rfl) ?_
  intro Γ Q cx rt
  unfold q_U_climbed at h
  refine v_iconst cx d_U_climbed_0 ?_
  refine v_istore_n (lv' := [(0, .ref (ad 38)), (1, .int (zI which)), (2, .int (zI sign)), (3, .int (zI 0))]) cx d_U_climbed_1 rfl (by decide) rfl rfl ?_
  refine v_iconst cx d_U_climbed_2 ?_
  refine v_istore (lv' := [(0, .ref (ad 38)), (1, .int (zI which)), (2, .int (zI sign)), (3, .int (zI 0)), (4, .int (zI 0))]) cx d_U_climbed_3 (by decide) rfl rfl ?_
  obtain ⟨I5, μ5, h0, h⟩ := h
  have L5 : ∀ (N5 : Nat) (y1 y2 : Int) (σ3 : zS), μ5 y1 y2 σ3 < N5 → I5 y1 y2 σ3 → zR y1 → zR y2 → zV Ω Γ rm_U_climbed 6 Q 0 0 zLy ad σ3 5 [(0, .ref (ad 38)), (1, .int (zI which)), (2, .int (zI sign)), (3, .int (zI y1)), (4, .int (zI y2))] [] := by
    intro N5
    induction N5 with
    | zero => intro y1 y2 σ3 hm; exact absurd hm (Nat.not_lt_zero _)
    | succ N5 ih5 =>
      intro y1 y2 σ3 hmm5 hI hy1 hy2
      replace h := h y1 y2 σ3 hI hy1 hy2
      refine v_iload cx 4 d_U_climbed_5 rfl ?_
      refine v_aload_n cx 0 d_U_climbed_7 rfl rfl ?_
      refine v_iload_n cx 1 d_U_climbed_8 rfl rfl ?_
      refine v_callVi0 (st := [.int (zI y2)]) cx (s_U_steps hwhich h) yk_U_steps lk_U_72 zl_38 rfl rfl rfl (Nat.le_of_ble_eq_true rfl) ⟨Nat.le_of_ble_eq_true rfl, Nat.le_of_ble_eq_true rfl⟩ ⟨rfl, rfl⟩ ⟨(Nat.le_of_ble_eq_true rfl), (Nat.le_of_ble_eq_true rfl)⟩ d_U_climbed_9 (fun r5 σ4 hr5 h => ?_)
      refine v_icmp_ge cx 71 d_U_climbed_12 (by decide) hy2 hr5 (fun c6 => ?_) (fun c6 => ?_)
      · replace h := h.1 c6
        refine v_iload_n cx 3 d_U_climbed_71 rfl rfl ?_
        exact rt _ _ _ _ _ _ (Nat.le_of_ble_eq_true rfl) (Nat.le_of_ble_eq_true rfl) d_U_climbed_72 hy1 h
      · replace h := h.2 c6
        refine v_aload_n cx 0 d_U_climbed_15 rfl rfl ?_
        refine gf_U_9 cx d_U_climbed_16 ?_
        refine v_aload_n cx 0 d_U_climbed_19 rfl rfl ?_
        refine gf_U_9 cx d_U_climbed_20 ?_
        refine v_iload_n cx 1 d_U_climbed_23 rfl rfl ?_
        refine v_iload cx 4 d_U_climbed_24 rfl ?_
        refine v_iconst cx d_U_climbed_26 ?_
        refine v_iadd cx d_U_climbed_27 ?_
        obtain ⟨hr7, h⟩ := h
        refine v_callVi0 (st := [.ref (ad 3)]) cx (s_L_roadPlace hwhich hr7 h) yk_L_roadPlace lk_U_81 zl_3 rfl rfl rfl (Nat.le_of_ble_eq_true rfl) ⟨Nat.le_of_ble_eq_true rfl, Nat.le_of_ble_eq_true rfl⟩ ⟨rfl, rfl⟩ ⟨(Nat.le_of_ble_eq_true rfl), (Nat.le_of_ble_eq_true rfl)⟩ d_U_climbed_28 (fun r9 σ8 hr9 h => ?_)
        refine v_callVi0 (st := []) cx (s_L_height hr9 h) yk_L_height lk_U_84 zl_3 rfl rfl rfl (Nat.le_of_ble_eq_true rfl) ⟨Nat.le_of_ble_eq_true rfl, Nat.le_of_ble_eq_true rfl⟩ ⟨rfl, rfl⟩ ⟨(Nat.le_of_ble_eq_true rfl), (Nat.le_of_ble_eq_true rfl)⟩ d_U_climbed_31 (fun r11 σ10 hr11 h => ?_)
        refine v_aload_n cx 0 d_U_climbed_34 rfl rfl ?_
        refine gf_U_9 cx d_U_climbed_35 ?_
        refine v_aload_n cx 0 d_U_climbed_38 rfl rfl ?_
        refine gf_U_9 cx d_U_climbed_39 ?_
        refine v_iload_n cx 1 d_U_climbed_42 rfl rfl ?_
        refine v_iload cx 4 d_U_climbed_43 rfl ?_
        refine v_callVi0 (st := [.ref (ad 3), .int (zI r11)]) cx (s_L_roadPlace hwhich hy2 h) yk_L_roadPlace lk_U_81 zl_3 rfl rfl rfl (Nat.le_of_ble_eq_true rfl) ⟨Nat.le_of_ble_eq_true rfl, Nat.le_of_ble_eq_true rfl⟩ ⟨rfl, rfl⟩ ⟨(Nat.le_of_ble_eq_true rfl), (Nat.le_of_ble_eq_true rfl)⟩ d_U_climbed_45 (fun r13 σ12 hr13 h => ?_)
        refine v_callVi0 (st := [.int (zI r11)]) cx (s_L_height hr13 h) yk_L_height lk_U_84 zl_3 rfl rfl rfl (Nat.le_of_ble_eq_true rfl) ⟨Nat.le_of_ble_eq_true rfl, Nat.le_of_ble_eq_true rfl⟩ ⟨rfl, rfl⟩ ⟨(Nat.le_of_ble_eq_true rfl), (Nat.le_of_ble_eq_true rfl)⟩ d_U_climbed_48 (fun r15 σ14 hr15 h => ?_)
        refine v_isub cx d_U_climbed_51 ?_
        refine v_nm (fun x16 ex16 => ?_)
        replace h := h x16 ex16
        refine v_istore (lv' := [(0, .ref (ad 38)), (1, .int (zI which)), (2, .int (zI sign)), (3, .int (zI y1)), (4, .int (zI y2)), (5, .int (zI x16))]) cx d_U_climbed_52 (by decide) rfl rfl ?_
        refine v_iload_n cx 3 d_U_climbed_54 rfl rfl ?_
        refine v_iconst cx d_U_climbed_55 ?_
        refine v_iload_n cx 2 d_U_climbed_56 rfl rfl ?_
        refine v_iload cx 5 d_U_climbed_57 rfl ?_
        refine v_imul cx d_U_climbed_59 ?_
        obtain ⟨hr17, h⟩ := h
        refine v_mmax cx lk_U_87 zmath_max.1 zmath_max.2.1 zmath_max.2.2 ⟨by decide, by decide⟩ hr17 (Nat.le_of_ble_eq_true rfl) (Nat.le_of_ble_eq_true rfl) (Nat.le_of_ble_eq_true rfl) (Nat.le_of_ble_eq_true rfl) d_U_climbed_60 (fun hl18 => ?_)
        refine v_iadd cx d_U_climbed_63 ?_
        refine v_nm (fun x19 ex19 => ?_)
        replace h := h x19 ex19
        refine v_istore_n (lv' := [(0, .ref (ad 38)), (1, .int (zI which)), (2, .int (zI sign)), (3, .int (zI x19)), (4, .int (zI y2)), (5, .int (zI x16))]) cx d_U_climbed_64 rfl (by decide) rfl rfl ?_
        refine v_iinc (lv' := [(0, .ref (ad 38)), (1, .int (zI which)), (2, .int (zI sign)), (3, .int (zI x19)), (4, .int (zI (y2 + 1))), (5, .int (zI x16))]) cx 4 d_U_climbed_65 rfl (by decide) rfl rfl ?_
        refine v_goto cx 5 d_U_climbed_68 (by decide) ?_
        refine v_sb (lv' := [(0, .ref (ad 38)), (1, .int (zI which)), (2, .int (zI sign)), (3, .int (zI x19)), (4, .int (zI (y2 + 1)))]) [0, 1, 2, 3, 4] rfl ?_
        obtain ⟨hI2, hz21, hm2⟩ := h
        exact ih5 _ _ _ (Nat.lt_of_lt_of_le hm2 (Nat.le_of_lt_succ hmm5)) hI2 hz21 hr7
  exact L5 _ _ _ _ (Nat.lt_succ_self _) h0 ⟨by decide, by decide⟩ ⟨by decide, by decide⟩
def q_U_bendAt (which : Int) (k_ : Int) (K : Int → zS → Prop) (σ : zS) : Prop :=
  zR (k_ - 1) ∧ (q_L_roadHeading which (k_ - 1) (fun r3 σ2 =>
      q_L_roadHeading which k_ (fun r5 σ4 =>
        q_R_eighths r3 r5 (fun r7 σ6 =>
          K r7 σ6) σ4) σ2) σ)
abbrev rm_U_bendAt : Room := { frames := 2, cells := 0, slots := 0, locals := 45 }
set_option maxRecDepth 20000 in
set_option maxHeartbeats 4000000 in
theorem s_U_bendAt {Ω : zO} {ad : Nat → Nat} {which : Int} {k_ : Int} {K : Int → zS → Prop} {σ : zS} (hwhich : zR which) (hk_ : zR k_) (h : q_U_bendAt which k_ K σ) : zMi Ω y_U_bendAt (.code y_U_bendAt c_U_bendAt 3 (some .int)) rm_U_bendAt zLy ad [.ref (ad 38), .int (zI which), .int (zI k_)] σ K := by
  refine z_ofi (lv := [(0, .ref (ad 38)), (1, .int (zI which)), (2, .int (zI k_))]) (by decide) rfl (Nat.le_of_ble_eq_true rfl) ?_
  intro Γ Q cx rt
  unfold q_U_bendAt at h
  refine v_aload_n cx 0 d_U_bendAt_0 rfl rfl ?_
  refine gf_U_9 cx d_U_bendAt_1 ?_
  refine v_iload_n cx 1 d_U_bendAt_4 rfl rfl ?_
  refine v_iload_n cx 2 d_U_bendAt_5 rfl rfl ?_
  refine v_iconst cx d_U_bendAt_6 ?_
  refine v_isub cx d_U_bendAt_7 ?_
  obtain ⟨hr1, h⟩ := h
  refine v_callVi0 (st := []) cx (s_L_roadHeading hwhich hr1 h) yk_L_roadHeading lk_U_75 zl_3 rfl rfl rfl (Nat.le_of_ble_eq_true rfl) ⟨Nat.le_of_ble_eq_true rfl, Nat.le_of_ble_eq_true rfl⟩ ⟨rfl, rfl⟩ ⟨(Nat.le_of_ble_eq_true rfl), (Nat.le_of_ble_eq_true rfl)⟩ d_U_bendAt_8 (fun r3 σ2 hr3 h => ?_)
  refine v_aload_n cx 0 d_U_bendAt_11 rfl rfl ?_
  refine gf_U_9 cx d_U_bendAt_12 ?_
  refine v_iload_n cx 1 d_U_bendAt_15 rfl rfl ?_
  refine v_iload_n cx 2 d_U_bendAt_16 rfl rfl ?_
  refine v_callVi0 (st := [.int (zI r3)]) cx (s_L_roadHeading hwhich hk_ h) yk_L_roadHeading lk_U_75 zl_3 rfl rfl rfl (Nat.le_of_ble_eq_true rfl) ⟨Nat.le_of_ble_eq_true rfl, Nat.le_of_ble_eq_true rfl⟩ ⟨rfl, rfl⟩ ⟨(Nat.le_of_ble_eq_true rfl), (Nat.le_of_ble_eq_true rfl)⟩ d_U_bendAt_17 (fun r5 σ4 hr5 h => ?_)
  refine v_callNi0 (st := []) cx (s_R_eighths hr3 hr5 h) yk_R_eighths ln_U_92 rfl rfl (Nat.le_of_ble_eq_true rfl) ⟨Nat.le_of_ble_eq_true rfl, Nat.le_of_ble_eq_true rfl⟩ ⟨rfl, rfl⟩ ⟨(Nat.le_of_ble_eq_true rfl), (Nat.le_of_ble_eq_true rfl)⟩ d_U_bendAt_20 (fun r7 σ6 hr7 h => ?_)
  exact rt _ _ _ _ _ _ (Nat.le_of_ble_eq_true rfl) (Nat.le_of_ble_eq_true rfl) d_U_bendAt_23 hr7 h
def q_U_costTogether (which : Int) (K : Int → zS → Prop) (σ : zS) : Prop :=
  ∃ (I4 : Int → Int → zS → Prop) (μ4 : Int → Int → zS → Nat), (I4 0 0 σ) ∧ ∀ (y1 y2 : Int) (σ3 : zS), I4 y1 y2 σ3 → zR y1 → zR y2 → 
  q_U_steps which (fun r5 σ4 =>
    (r5 ≤ y2 →
      K y1 σ4) ∧ (y2 < r5 →
      q_L_roadPlace which y2 (fun r8 σ7 =>
        q_L_roadHeading which y2 (fun r10 σ9 =>
          q_L_stepCost r8 r10 (fun r12 σ11 =>
            ∀ x13 : Int, x13 = y1 + r12 → (y2 ≠ 0 →
              q_U_bendAt which y2 (fun r16 σ15 =>
                q_L_bendCost r16 (fun r18 σ17 =>
                  ∀ x19 : Int, x19 = x13 + r18 → I4 x19 (y2 + 1) σ17 ∧ zR x19 ∧ zR (y2 + 1) ∧ μ4 x19 (y2 + 1) σ17 < μ4 y1 y2 σ3) σ15) σ11) ∧ (y2 = 0 →
              ∀ x23 : Int, x23 = x13 + 0 → I4 x23 (y2 + 1) σ11 ∧ zR x23 ∧ zR (y2 + 1) ∧ μ4 x23 (y2 + 1) σ11 < μ4 y1 y2 σ3)) σ9) σ7) σ4)) σ3
abbrev rm_U_costTogether : Room := { frames := 3, cells := 0, slots := 0, locals := 67 }
set_option maxRecDepth 20000 in
set_option maxHeartbeats 4000000 in
theorem s_U_costTogether {Ω : zO} {ad : Nat → Nat} {which : Int} {K : Int → zS → Prop} {σ : zS} (hwhich : zR which) (h : q_U_costTogether which K σ) : zMi Ω y_U_costTogether (.code y_U_costTogether c_U_costTogether 4 (some .int)) rm_U_costTogether zLy ad [.ref (ad 38), .int (zI which)] σ K := by
  refine z_ofi (lv := [(0, .ref (ad 38)), (1, .int (zI which))]) (by decide) rfl (Nat.le_of_ble_eq_true rfl) ?_
  intro Γ Q cx rt
  unfold q_U_costTogether at h
  refine v_iconst cx d_U_costTogether_0 ?_
  refine v_istore_n (lv' := [(0, .ref (ad 38)), (1, .int (zI which)), (2, .int (zI 0))]) cx d_U_costTogether_1 rfl (by decide) rfl rfl ?_
  refine v_iconst cx d_U_costTogether_2 ?_
  refine v_istore_n (lv' := [(0, .ref (ad 38)), (1, .int (zI which)), (2, .int (zI 0)), (3, .int (zI 0))]) cx d_U_costTogether_3 rfl (by decide) rfl rfl ?_
  obtain ⟨I4, μ4, h0, h⟩ := h
  have L4 : ∀ (N4 : Nat) (y1 y2 : Int) (σ3 : zS), μ4 y1 y2 σ3 < N4 → I4 y1 y2 σ3 → zR y1 → zR y2 → zV Ω Γ rm_U_costTogether 4 Q 0 0 zLy ad σ3 4 [(0, .ref (ad 38)), (1, .int (zI which)), (2, .int (zI y1)), (3, .int (zI y2))] [] := by
    intro N4
    induction N4 with
    | zero => intro y1 y2 σ3 hm; exact absurd hm (Nat.not_lt_zero _)
    | succ N4 ih4 =>
      intro y1 y2 σ3 hmm4 hI hy1 hy2
      replace h := h y1 y2 σ3 hI hy1 hy2
      refine v_iload_n cx 3 d_U_costTogether_4 rfl rfl ?_
      refine v_aload_n cx 0 d_U_costTogether_5 rfl rfl ?_
      refine v_iload_n cx 1 d_U_costTogether_6 rfl rfl ?_
      refine v_callVi0 (st := [.int (zI y2)]) cx (s_U_steps hwhich h) yk_U_steps lk_U_72 zl_38 rfl rfl rfl (Nat.le_of_ble_eq_true rfl) ⟨Nat.le_of_ble_eq_true rfl, Nat.le_of_ble_eq_true rfl⟩ ⟨rfl, rfl⟩ ⟨(Nat.le_of_ble_eq_true rfl), (Nat.le_of_ble_eq_true rfl)⟩ d_U_costTogether_7 (fun r5 σ4 hr5 h => ?_)
      refine v_icmp_ge cx 71 d_U_costTogether_10 (by decide) hy2 hr5 (fun c6 => ?_) (fun c6 => ?_)
      · replace h := h.1 c6
        refine v_iload_n cx 2 d_U_costTogether_71 rfl rfl ?_
        exact rt _ _ _ _ _ _ (Nat.le_of_ble_eq_true rfl) (Nat.le_of_ble_eq_true rfl) d_U_costTogether_72 hy1 h
      · replace h := h.2 c6
        refine v_iload_n cx 2 d_U_costTogether_13 rfl rfl ?_
        refine v_aload_n cx 0 d_U_costTogether_14 rfl rfl ?_
        refine gf_U_9 cx d_U_costTogether_15 ?_
        refine v_aload_n cx 0 d_U_costTogether_18 rfl rfl ?_
        refine gf_U_9 cx d_U_costTogether_19 ?_
        refine v_iload_n cx 1 d_U_costTogether_22 rfl rfl ?_
        refine v_iload_n cx 3 d_U_costTogether_23 rfl rfl ?_
        refine v_callVi0 (st := [.ref (ad 3), .int (zI y1)]) cx (s_L_roadPlace hwhich hy2 h) yk_L_roadPlace lk_U_81 zl_3 rfl rfl rfl (Nat.le_of_ble_eq_true rfl) ⟨Nat.le_of_ble_eq_true rfl, Nat.le_of_ble_eq_true rfl⟩ ⟨rfl, rfl⟩ ⟨(Nat.le_of_ble_eq_true rfl), (Nat.le_of_ble_eq_true rfl)⟩ d_U_costTogether_24 (fun r8 σ7 hr8 h => ?_)
        refine v_aload_n cx 0 d_U_costTogether_27 rfl rfl ?_
        refine gf_U_9 cx d_U_costTogether_28 ?_
        refine v_iload_n cx 1 d_U_costTogether_31 rfl rfl ?_
        refine v_iload_n cx 3 d_U_costTogether_32 rfl rfl ?_
        refine v_callVi0 (st := [.int (zI r8), .ref (ad 3), .int (zI y1)]) cx (s_L_roadHeading hwhich hy2 h) yk_L_roadHeading lk_U_75 zl_3 rfl rfl rfl (Nat.le_of_ble_eq_true rfl) ⟨Nat.le_of_ble_eq_true rfl, Nat.le_of_ble_eq_true rfl⟩ ⟨rfl, rfl⟩ ⟨(Nat.le_of_ble_eq_true rfl), (Nat.le_of_ble_eq_true rfl)⟩ d_U_costTogether_33 (fun r10 σ9 hr10 h => ?_)
        refine v_callVi0 (st := [.int (zI y1)]) cx (s_L_stepCost hr8 hr10 h) yk_L_stepCost lk_U_95 zl_3 rfl rfl rfl (Nat.le_of_ble_eq_true rfl) ⟨Nat.le_of_ble_eq_true rfl, Nat.le_of_ble_eq_true rfl⟩ ⟨rfl, rfl⟩ ⟨(Nat.le_of_ble_eq_true rfl), (Nat.le_of_ble_eq_true rfl)⟩ d_U_costTogether_36 (fun r12 σ11 hr12 h => ?_)
        refine v_iadd cx d_U_costTogether_39 ?_
        refine v_nm (fun x13 ex13 => ?_)
        replace h := h x13 ex13
        refine v_istore_n (lv' := [(0, .ref (ad 38)), (1, .int (zI which)), (2, .int (zI x13)), (3, .int (zI y2))]) cx d_U_costTogether_40 rfl (by decide) rfl rfl ?_
        refine v_iload_n cx 2 d_U_costTogether_41 rfl rfl ?_
        refine v_iload_n cx 3 d_U_costTogether_42 rfl rfl ?_
        refine v_if_ne cx 50 d_U_costTogether_43 (by decide) hy2 (fun c14 => ?_) (fun c14 => ?_)
        · replace h := h.1 c14
          refine v_aload_n cx 0 d_U_costTogether_50 rfl rfl ?_
          refine gf_U_9 cx d_U_costTogether_51 ?_
          refine v_aload_n cx 0 d_U_costTogether_54 rfl rfl ?_
          refine v_iload_n cx 1 d_U_costTogether_55 rfl rfl ?_
          refine v_iload_n cx 3 d_U_costTogether_56 rfl rfl ?_
          refine v_callVi0 (st := [.ref (ad 3), .int (zI x13)]) cx (s_U_bendAt hwhich hy2 h) yk_U_bendAt lk_U_98 zl_38 rfl rfl rfl (Nat.le_of_ble_eq_true rfl) ⟨Nat.le_of_ble_eq_true rfl, Nat.le_of_ble_eq_true rfl⟩ ⟨rfl, rfl⟩ ⟨(Nat.le_of_ble_eq_true rfl), (Nat.le_of_ble_eq_true rfl)⟩ d_U_costTogether_57 (fun r16 σ15 hr16 h => ?_)
          refine v_callVi0 (st := [.int (zI x13)]) cx (s_L_bendCost hr16 h) yk_L_bendCost lk_U_101 zl_3 rfl rfl rfl (Nat.le_of_ble_eq_true rfl) ⟨Nat.le_of_ble_eq_true rfl, Nat.le_of_ble_eq_true rfl⟩ ⟨rfl, rfl⟩ ⟨(Nat.le_of_ble_eq_true rfl), (Nat.le_of_ble_eq_true rfl)⟩ d_U_costTogether_60 (fun r18 σ17 hr18 h => ?_)
          refine v_iadd cx d_U_costTogether_63 ?_
          refine v_nm (fun x19 ex19 => ?_)
          replace h := h x19 ex19
          refine v_istore_n (lv' := [(0, .ref (ad 38)), (1, .int (zI which)), (2, .int (zI x19)), (3, .int (zI y2))]) cx d_U_costTogether_64 rfl (by decide) rfl rfl ?_
          refine v_iinc (lv' := [(0, .ref (ad 38)), (1, .int (zI which)), (2, .int (zI x19)), (3, .int (zI (y2 + 1)))]) cx 3 d_U_costTogether_65 rfl (by decide) rfl rfl ?_
          refine v_goto cx 4 d_U_costTogether_68 (by decide) ?_
          obtain ⟨hI2, hz21, hz22, hm2⟩ := h
          exact ih4 _ _ _ (Nat.lt_of_lt_of_le hm2 (Nat.le_of_lt_succ hmm4)) hI2 hz21 hz22
        · replace h := h.2 c14
          refine v_iconst cx d_U_costTogether_46 ?_
          refine v_goto cx 63 d_U_costTogether_47 (by decide) ?_
          refine v_iadd cx d_U_costTogether_63 ?_
          refine v_nm (fun x23 ex23 => ?_)
          replace h := h x23 ex23
          refine v_istore_n (lv' := [(0, .ref (ad 38)), (1, .int (zI which)), (2, .int (zI x23)), (3, .int (zI y2))]) cx d_U_costTogether_64 rfl (by decide) rfl rfl ?_
          refine v_iinc (lv' := [(0, .ref (ad 38)), (1, .int (zI which)), (2, .int (zI x23)), (3, .int (zI (y2 + 1)))]) cx 3 d_U_costTogether_65 rfl (by decide) rfl rfl ?_
          refine v_goto cx 4 d_U_costTogether_68 (by decide) ?_
          obtain ⟨hI2, hz25, hz26, hm2⟩ := h
          exact ih4 _ _ _ (Nat.lt_of_lt_of_le hm2 (Nat.le_of_lt_succ hmm4)) hI2 hz25 hz26
  exact L4 _ _ _ _ (Nat.lt_succ_self _) h0 ⟨by decide, by decide⟩ ⟨by decide, by decide⟩
def q_U_earthTogether (which : Int) (K : Int → zS → Prop) (σ : zS) : Prop :=
  ∃ (I4 : Int → Int → zS → Prop) (μ4 : Int → Int → zS → Nat), (I4 0 0 σ) ∧ ∀ (y1 y2 : Int) (σ3 : zS), I4 y1 y2 σ3 → zR y1 → zR y2 → 
  q_L_roadSize which (fun r5 σ4 =>
    (r5 ≤ y2 →
      K y1 σ4) ∧ (y2 < r5 →
      q_L_roadOffset which y2 (fun r8 σ7 =>
        q_G_earthOf r8 (fun r10 σ9 =>
          ∀ x11 : Int, x11 = y1 + r10 → I4 x11 (y2 + 1) σ9 ∧ zR x11 ∧ zR (y2 + 1) ∧ μ4 x11 (y2 + 1) σ9 < μ4 y1 y2 σ3) σ7) σ4)) σ3
abbrev rm_U_earthTogether : Room := { frames := 2, cells := 0, slots := 0, locals := 42 }
set_option maxRecDepth 20000 in
set_option maxHeartbeats 4000000 in
theorem s_U_earthTogether {Ω : zO} {ad : Nat → Nat} {which : Int} {K : Int → zS → Prop} {σ : zS} (hwhich : zR which) (h : q_U_earthTogether which K σ) : zMi Ω y_U_earthTogether (.code y_U_earthTogether c_U_earthTogether 4 (some .int)) rm_U_earthTogether zLy ad [.ref (ad 38), .int (zI which)] σ K := by
  refine z_ofi (lv := [(0, .ref (ad 38)), (1, .int (zI which))]) (by decide) rfl (Nat.le_of_ble_eq_true rfl) ?_
  intro Γ Q cx rt
  unfold q_U_earthTogether at h
  refine v_iconst cx d_U_earthTogether_0 ?_
  refine v_istore_n (lv' := [(0, .ref (ad 38)), (1, .int (zI which)), (2, .int (zI 0))]) cx d_U_earthTogether_1 rfl (by decide) rfl rfl ?_
  refine v_iconst cx d_U_earthTogether_2 ?_
  refine v_istore_n (lv' := [(0, .ref (ad 38)), (1, .int (zI which)), (2, .int (zI 0)), (3, .int (zI 0))]) cx d_U_earthTogether_3 rfl (by decide) rfl rfl ?_
  obtain ⟨I4, μ4, h0, h⟩ := h
  have L4 : ∀ (N4 : Nat) (y1 y2 : Int) (σ3 : zS), μ4 y1 y2 σ3 < N4 → I4 y1 y2 σ3 → zR y1 → zR y2 → zV Ω Γ rm_U_earthTogether 4 Q 0 0 zLy ad σ3 4 [(0, .ref (ad 38)), (1, .int (zI which)), (2, .int (zI y1)), (3, .int (zI y2))] [] := by
    intro N4
    induction N4 with
    | zero => intro y1 y2 σ3 hm; exact absurd hm (Nat.not_lt_zero _)
    | succ N4 ih4 =>
      intro y1 y2 σ3 hmm4 hI hy1 hy2
      replace h := h y1 y2 σ3 hI hy1 hy2
      refine v_iload_n cx 3 d_U_earthTogether_4 rfl rfl ?_
      refine v_aload_n cx 0 d_U_earthTogether_5 rfl rfl ?_
      refine gf_U_9 cx d_U_earthTogether_6 ?_
      refine v_iload_n cx 1 d_U_earthTogether_9 rfl rfl ?_
      refine v_callVi0 (st := [.int (zI y2)]) cx (s_L_roadSize hwhich h) yk_L_roadSize lk_U_27 zl_3 rfl rfl rfl (Nat.le_of_ble_eq_true rfl) ⟨Nat.le_of_ble_eq_true rfl, Nat.le_of_ble_eq_true rfl⟩ ⟨rfl, rfl⟩ ⟨(Nat.le_of_ble_eq_true rfl), (Nat.le_of_ble_eq_true rfl)⟩ d_U_earthTogether_10 (fun r5 σ4 hr5 h => ?_)
      refine v_icmp_ge cx 41 d_U_earthTogether_13 (by decide) hy2 hr5 (fun c6 => ?_) (fun c6 => ?_)
      · replace h := h.1 c6
        refine v_iload_n cx 2 d_U_earthTogether_41 rfl rfl ?_
        exact rt _ _ _ _ _ _ (Nat.le_of_ble_eq_true rfl) (Nat.le_of_ble_eq_true rfl) d_U_earthTogether_42 hy1 h
      · replace h := h.2 c6
        refine v_iload_n cx 2 d_U_earthTogether_16 rfl rfl ?_
        refine v_aload_n cx 0 d_U_earthTogether_17 rfl rfl ?_
        refine gf_U_15 cx d_U_earthTogether_18 ?_
        refine v_aload_n cx 0 d_U_earthTogether_21 rfl rfl ?_
        refine gf_U_9 cx d_U_earthTogether_22 ?_
        refine v_iload_n cx 1 d_U_earthTogether_25 rfl rfl ?_
        refine v_iload_n cx 3 d_U_earthTogether_26 rfl rfl ?_
        refine v_callVi0 (st := [.ref (ad 35), .int (zI y1)]) cx (s_L_roadOffset hwhich hy2 h) yk_L_roadOffset lk_U_115 zl_3 rfl rfl rfl (Nat.le_of_ble_eq_true rfl) ⟨Nat.le_of_ble_eq_true rfl, Nat.le_of_ble_eq_true rfl⟩ ⟨rfl, rfl⟩ ⟨(Nat.le_of_ble_eq_true rfl), (Nat.le_of_ble_eq_true rfl)⟩ d_U_earthTogether_27 (fun r8 σ7 hr8 h => ?_)
        refine v_callVi0 (st := [.int (zI y1)]) cx (s_G_earthOf hr8 h) yk_G_earthOf lk_U_124 zl_35 rfl rfl rfl (Nat.le_of_ble_eq_true rfl) ⟨Nat.le_of_ble_eq_true rfl, Nat.le_of_ble_eq_true rfl⟩ ⟨rfl, rfl⟩ ⟨(Nat.le_of_ble_eq_true rfl), (Nat.le_of_ble_eq_true rfl)⟩ d_U_earthTogether_30 (fun r10 σ9 hr10 h => ?_)
        refine v_iadd cx d_U_earthTogether_33 ?_
        refine v_nm (fun x11 ex11 => ?_)
        replace h := h x11 ex11
        refine v_istore_n (lv' := [(0, .ref (ad 38)), (1, .int (zI which)), (2, .int (zI x11)), (3, .int (zI y2))]) cx d_U_earthTogether_34 rfl (by decide) rfl rfl ?_
        refine v_iinc (lv' := [(0, .ref (ad 38)), (1, .int (zI which)), (2, .int (zI x11)), (3, .int (zI (y2 + 1)))]) cx 3 d_U_earthTogether_35 rfl (by decide) rfl rfl ?_
        refine v_goto cx 4 d_U_earthTogether_38 (by decide) ?_
        obtain ⟨hI2, hz13, hz14, hm2⟩ := h
        exact ih4 _ _ _ (Nat.lt_of_lt_of_le hm2 (Nat.le_of_lt_succ hmm4)) hI2 hz13 hz14
  exact L4 _ _ _ _ (Nat.lt_succ_self _) h0 ⟨by decide, by decide⟩ ⟨by decide, by decide⟩
def q_U_firstBrokenBend (which : Int) (K : Int → zS → Prop) (σ : zS) : Prop :=
  ∃ (I2 : Int → zS → Prop) (μ2 : Int → zS → Nat), (I2 1 σ) ∧ ∀ (y1 : Int) (σ2 : zS), I2 y1 σ2 → zR y1 → 
  q_U_steps which (fun r4 σ3 =>
    (r4 ≤ y1 →
      K (-1) σ3) ∧ (y1 < r4 →
      q_U_bendAt which y1 (fun r7 σ6 =>
        q_L_value 1 (fun r9 σ8 =>
          (r7 ≤ r9 →
            I2 (y1 + 1) σ8 ∧ zR (y1 + 1) ∧ μ2 (y1 + 1) σ8 < μ2 y1 σ2) ∧ (r9 < r7 →
            q_L_roadPlace which y1 (fun r14 σ13 =>
              q_L_isFlat r14 (fun r16 σ15 =>
                (r16 ≠ 0 →
                  I2 (y1 + 1) σ15 ∧ zR (y1 + 1) ∧ μ2 (y1 + 1) σ15 < μ2 y1 σ2) ∧ (r16 = 0 →
                  K y1 σ15)) σ13) σ8)) σ6) σ3)) σ2
abbrev rm_U_firstBrokenBend : Room := { frames := 3, cells := 0, slots := 0, locals := 67 }
set_option maxRecDepth 20000 in
set_option maxHeartbeats 4000000 in
theorem s_U_firstBrokenBend {Ω : zO} {ad : Nat → Nat} {which : Int} {K : Int → zS → Prop} {σ : zS} (hwhich : zR which) (h : q_U_firstBrokenBend which K σ) : zMi Ω y_U_firstBrokenBend (.code y_U_firstBrokenBend c_U_firstBrokenBend 3 (some .int)) rm_U_firstBrokenBend zLy ad [.ref (ad 38), .int (zI which)] σ K := by
  refine z_ofi (lv := [(0, .ref (ad 38)), (1, .int (zI which))]) (by decide) rfl (Nat.le_of_ble_eq_true rfl) ?_
  intro Γ Q cx rt
  unfold q_U_firstBrokenBend at h
  refine v_iconst cx d_U_firstBrokenBend_0 ?_
  refine v_istore_n (lv' := [(0, .ref (ad 38)), (1, .int (zI which)), (2, .int (zI 1))]) cx d_U_firstBrokenBend_1 rfl (by decide) rfl rfl ?_
  obtain ⟨I2, μ2, h0, h⟩ := h
  have L2 : ∀ (N2 : Nat) (y1 : Int) (σ2 : zS), μ2 y1 σ2 < N2 → I2 y1 σ2 → zR y1 → zV Ω Γ rm_U_firstBrokenBend 3 Q 0 0 zLy ad σ2 2 [(0, .ref (ad 38)), (1, .int (zI which)), (2, .int (zI y1))] [] := by
    intro N2
    induction N2 with
    | zero => intro y1 σ2 hm; exact absurd hm (Nat.not_lt_zero _)
    | succ N2 ih2 =>
      intro y1 σ2 hmm2 hI hy1
      replace h := h y1 σ2 hI hy1
      refine v_iload_n cx 2 d_U_firstBrokenBend_2 rfl rfl ?_
      refine v_aload_n cx 0 d_U_firstBrokenBend_3 rfl rfl ?_
      refine v_iload_n cx 1 d_U_firstBrokenBend_4 rfl rfl ?_
      refine v_callVi0 (st := [.int (zI y1)]) cx (s_U_steps hwhich h) yk_U_steps lk_U_72 zl_38 rfl rfl rfl (Nat.le_of_ble_eq_true rfl) ⟨Nat.le_of_ble_eq_true rfl, Nat.le_of_ble_eq_true rfl⟩ ⟨rfl, rfl⟩ ⟨(Nat.le_of_ble_eq_true rfl), (Nat.le_of_ble_eq_true rfl)⟩ d_U_firstBrokenBend_5 (fun r4 σ3 hr4 h => ?_)
      refine v_icmp_ge cx 55 d_U_firstBrokenBend_8 (by decide) hy1 hr4 (fun c5 => ?_) (fun c5 => ?_)
      · replace h := h.1 c5
        refine v_iconst cx d_U_firstBrokenBend_55 ?_
        exact rt _ _ _ _ _ _ (Nat.le_of_ble_eq_true rfl) (Nat.le_of_ble_eq_true rfl) d_U_firstBrokenBend_56 ⟨by decide, by decide⟩ h
      · replace h := h.2 c5
        refine v_aload_n cx 0 d_U_firstBrokenBend_11 rfl rfl ?_
        refine v_iload_n cx 1 d_U_firstBrokenBend_12 rfl rfl ?_
        refine v_iload_n cx 2 d_U_firstBrokenBend_13 rfl rfl ?_
        refine v_callVi0 (st := []) cx (s_U_bendAt hwhich hy1 h) yk_U_bendAt lk_U_98 zl_38 rfl rfl rfl (Nat.le_of_ble_eq_true rfl) ⟨Nat.le_of_ble_eq_true rfl, Nat.le_of_ble_eq_true rfl⟩ ⟨rfl, rfl⟩ ⟨(Nat.le_of_ble_eq_true rfl), (Nat.le_of_ble_eq_true rfl)⟩ d_U_firstBrokenBend_14 (fun r7 σ6 hr7 h => ?_)
        refine v_aload_n cx 0 d_U_firstBrokenBend_17 rfl rfl ?_
        refine gf_U_9 cx d_U_firstBrokenBend_18 ?_
        refine v_iconst cx d_U_firstBrokenBend_21 ?_
        refine v_callVi0 (st := [.int (zI r7)]) cx (s_L_value ⟨by decide, by decide⟩ h) yk_L_value lk_U_104 zl_3 rfl rfl rfl (Nat.le_of_ble_eq_true rfl) ⟨Nat.le_of_ble_eq_true rfl, Nat.le_of_ble_eq_true rfl⟩ ⟨rfl, rfl⟩ ⟨(Nat.le_of_ble_eq_true rfl), (Nat.le_of_ble_eq_true rfl)⟩ d_U_firstBrokenBend_22 (fun r9 σ8 hr9 h => ?_)
        refine v_icmp_le cx 49 d_U_firstBrokenBend_25 (by decide) hr7 hr9 (fun c10 => ?_) (fun c10 => ?_)
        · replace h := h.1 c10
          refine v_iinc (lv' := [(0, .ref (ad 38)), (1, .int (zI which)), (2, .int (zI (y1 + 1)))]) cx 2 d_U_firstBrokenBend_49 rfl (by decide) rfl rfl ?_
          refine v_goto cx 2 d_U_firstBrokenBend_52 (by decide) ?_
          obtain ⟨hI2, hz12, hm2⟩ := h
          exact ih2 _ _ (Nat.lt_of_lt_of_le hm2 (Nat.le_of_lt_succ hmm2)) hI2 hz12
        · replace h := h.2 c10
          refine v_aload_n cx 0 d_U_firstBrokenBend_28 rfl rfl ?_
          refine gf_U_9 cx d_U_firstBrokenBend_29 ?_
          refine v_aload_n cx 0 d_U_firstBrokenBend_32 rfl rfl ?_
          refine gf_U_9 cx d_U_firstBrokenBend_33 ?_
          refine v_iload_n cx 1 d_U_firstBrokenBend_36 rfl rfl ?_
          refine v_iload_n cx 2 d_U_firstBrokenBend_37 rfl rfl ?_
          refine v_callVi0 (st := [.ref (ad 3)]) cx (s_L_roadPlace hwhich hy1 h) yk_L_roadPlace lk_U_81 zl_3 rfl rfl rfl (Nat.le_of_ble_eq_true rfl) ⟨Nat.le_of_ble_eq_true rfl, Nat.le_of_ble_eq_true rfl⟩ ⟨rfl, rfl⟩ ⟨(Nat.le_of_ble_eq_true rfl), (Nat.le_of_ble_eq_true rfl)⟩ d_U_firstBrokenBend_38 (fun r14 σ13 hr14 h => ?_)
          refine v_callVz0 (st := []) cx (s_L_isFlat hr14 h) yk_L_isFlat lk_U_111 zl_3 rfl rfl rfl (Nat.le_of_ble_eq_true rfl) ⟨Nat.le_of_ble_eq_true rfl, Nat.le_of_ble_eq_true rfl⟩ ⟨rfl, rfl⟩ ⟨(Nat.le_of_ble_eq_true rfl), (Nat.le_of_ble_eq_true rfl)⟩ d_U_firstBrokenBend_41 (fun r16 σ15 hr16 h => ?_)
          refine v_if_ne cx 49 d_U_firstBrokenBend_44 (by decide) (zR_b hr16) (fun c17 => ?_) (fun c17 => ?_)
          · replace h := h.1 c17
            refine v_iinc (lv' := [(0, .ref (ad 38)), (1, .int (zI which)), (2, .int (zI (y1 + 1)))]) cx 2 d_U_firstBrokenBend_49 rfl (by decide) rfl rfl ?_
            refine v_goto cx 2 d_U_firstBrokenBend_52 (by decide) ?_
            obtain ⟨hI2, hz19, hm2⟩ := h
            exact ih2 _ _ (Nat.lt_of_lt_of_le hm2 (Nat.le_of_lt_succ hmm2)) hI2 hz19
          · replace h := h.2 c17
            refine v_iload_n cx 2 d_U_firstBrokenBend_47 rfl rfl ?_
            exact rt _ _ _ _ _ _ (Nat.le_of_ble_eq_true rfl) (Nat.le_of_ble_eq_true rfl) d_U_firstBrokenBend_48 hy1 h
  exact L2 _ _ _ (Nat.lt_succ_self _) h0 ⟨by decide, by decide⟩
