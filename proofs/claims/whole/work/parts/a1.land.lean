/-! ===== the text's lines: moreLine, land ===== -/
def zG (c : Nat) (y : Int) : Nat := c * y.toNat
theorem zG1_le {y : Int} (h : 0 ≤ y ∧ y < 16) : zG 1 y ≤ 16 := by
  unfold zG; omega
theorem zG11_le {y : Int} (h : 0 ≤ y ∧ y < 16) : zG 11 y ≤ 176 := by
  unfold zG; omega
theorem zG1_c {y : Int} (h : 0 ≤ y ∧ y < 16) : zG 1 y + 1 ≤ 16 := by
  unfold zG; omega
theorem zG11_c {y : Int} (h : 0 ≤ y ∧ y < 16) : zG 11 y + 11 ≤ 176 := by
  unfold zG; omega
theorem zG1_uc {y : Int} (h : 0 ≤ y ∧ y < 16) : zG 1 y + 1 ≤ zG 1 (y + 1) := by
  unfold zG; omega
theorem zG11_uc {y : Int} (h : 0 ≤ y ∧ y < 16) : zG 11 y + 11 ≤ zG 11 (y + 1) := by
  unfold zG; omega
theorem zG1_um {y : Int} (h : 0 ≤ y ∧ y < 16) : zG 1 y ≤ zG 1 (y + 1) := by
  unfold zG; omega
theorem zG11_um {y : Int} (h : 0 ≤ y ∧ y < 16) : zG 11 y ≤ zG 11 (y + 1) := by
  unfold zG; omega
def q_M_moreLine (K : zS → Prop) (σ : zS) : Prop :=
  q_M_here (fun r2 σ1 =>
    q_M_has [119, 101, 116] (fun r4 σ3 =>
      (r4 = 0 →
        q_M_termHere (fun r7 σ6 =>
          (r7 = (-1) →
            q_M_wrong r2 (fun σ9 =>
              K σ9) σ6) ∧ (r7 ≠ (-1) →
            ((zAnd (zShr (σ6 41 34) r7) 1) ≠ 1 →
              ∀ σ13 : zS, σ13 = zU σ6 41 34 (zOr (σ6 41 34) (zShl 1 r7)) → ∃ J143 : Int → Prop, (∀ (w14 : Int), J143 w14 → zR w14 → 
                (0 ≤ r7 ∧ r7 < 11) ∧ (q_M_number w14 (σ13 46 r7) (fun r18 σ17 =>
                    (0 ≤ 2 + r7 ∧ 2 + r7 < 499) ∧ (∀ σ20 : zS, σ20 = zU σ17 50 (2 + r7) r18 → K σ20)) σ13)) ∧
              ((r7 ≠ 0 →
                  J143 0) ∧ (r7 = 0 →
                  J143 1))) ∧ ((zAnd (zShr (σ6 41 34) r7) 1) = 1 →
              q_M_wrong r2 (fun σ22 =>
                K σ22) σ6))) σ3) ∧ (r4 ≠ 0 →
        q_M_here (fun r24 σ23 =>
          zR (((σ23 50 0) * (σ23 50 1)) - 1) ∧ (q_M_number 0 (((σ23 50 0) * (σ23 50 1)) - 1) (fun r29 σ28 =>
              ∃ J67 : zS → Prop, (∀ (σ31 : zS), J67 σ31 → 
                ((σ31 41 14) ≠ (-1) →
                  K σ31) ∧ ((σ31 41 14) = (-1) →
                  (0 ≤ 94 + r29 ∧ 94 + r29 < 499) ∧ (∀ σ35 : zS, σ35 = zU σ31 50 (94 + r29) 1 → K σ35))) ∧
              (((σ28 41 14) ≠ (-1) →
                  J67 σ28) ∧ ((σ28 41 14) = (-1) →
                  (0 ≤ 94 + r29 ∧ 94 + r29 < 499) ∧ (((σ28 50 (94 + r29)) ≠ 1 →
                      J67 σ28) ∧ ((σ28 50 (94 + r29)) = 1 →
                      q_M_wrong r24 (fun σ40 =>
                        J67 σ40) σ28))))) σ23)) σ3)) σ1) σ
abbrev rm_M_moreLine : Room := { frames := 6, cells := 1, slots := 11, locals := 130 }
set_option maxRecDepth 20000 in
set_option maxHeartbeats 4000000 in
theorem s_M_moreLine {Ω : zO} {ad : Nat → Nat} {K : zS → Prop} {σ : zS}  (h : q_M_moreLine K σ) : zMv Ω y_M_moreLine (.code y_M_moreLine c_M_moreLine 4 none) rm_M_moreLine zLy ad [.ref (ad 41)] σ K := by
  refine z_ofv (lv := [(0, .ref (ad 41))]) (by decide) rfl (Nat.le_of_ble_eq_true rfl) ?_
  intro Γ Q cx rt
  unfold q_M_moreLine at h
  refine v_aload_n cx 0 d_M_moreLine_0 rfl rfl ?_
  refine v_callVi0 (st := []) cx (s_M_here  h) yk_M_here lk_M_224 zl_41 rfl rfl rfl (Nat.le_of_ble_eq_true rfl) ⟨Nat.le_of_ble_eq_true rfl, Nat.le_of_ble_eq_true rfl⟩ ⟨rfl, rfl⟩ ⟨(Nat.le_of_ble_eq_true rfl), (Nat.le_of_ble_eq_true rfl)⟩ d_M_moreLine_1 (fun r2 σ1 hr2 h => ?_)
  refine v_istore_n (lv' := [(0, .ref (ad 41)), (1, .int (zI r2))]) cx d_M_moreLine_4 rfl (by decide) rfl rfl ?_
  refine v_aload_n cx 0 d_M_moreLine_5 rfl rfl ?_
  refine v_ldcSw cx zsr_36 d_M_moreLine_6 ?_
  refine v_callVz0 (st := []) cx (s_M_has zsb_36 h) yk_M_has lk_M_236 zl_41 rfl rfl rfl (Nat.le_of_ble_eq_true rfl) ⟨Nat.le_of_ble_eq_true rfl, Nat.le_of_ble_eq_true rfl⟩ ⟨rfl, rfl⟩ ⟨(Nat.le_of_ble_eq_true rfl), (Nat.le_of_ble_eq_true rfl)⟩ d_M_moreLine_9 (fun r4 σ3 hr4 h => ?_)
  refine v_if_eq cx 86 d_M_moreLine_12 (by decide) (zR_b hr4) (fun c5 => ?_) (fun c5 => ?_)
  · replace h := h.1 c5
    refine v_aload_n cx 0 d_M_moreLine_86 rfl rfl ?_
    refine v_callVi (st := []) cx (s_M_termHere  h) yk_M_termHere lk_M_279 zl_41 rfl rfl rfl (Nat.le_of_ble_eq_true rfl) ⟨Nat.le_of_ble_eq_true rfl, Nat.le_of_ble_eq_true rfl⟩ ⟨(Nat.le_of_ble_eq_true rfl), (Nat.le_of_ble_eq_true rfl)⟩ d_M_moreLine_87 (fun r7 σ6 hr7 h => ?_)
    refine v_widen (k' := 1) (n' := 11) (Nat.le_of_ble_eq_true rfl) (Nat.le_of_ble_eq_true rfl) ?_
    refine v_istore_n (lv' := [(0, .ref (ad 41)), (1, .int (zI r2)), (2, .int (zI r7))]) cx d_M_moreLine_90 rfl (by decide) rfl rfl ?_
    refine v_iload_n cx 2 d_M_moreLine_91 rfl rfl ?_
    refine v_iconst cx d_M_moreLine_92 ?_
    refine v_icmp_eq cx 108 d_M_moreLine_93 (by decide) hr7 ⟨by decide, by decide⟩ (fun c8 => ?_) (fun c8 => ?_)
    · replace h := h.1 c8
      refine v_aload_n cx 0 d_M_moreLine_108 rfl rfl ?_
      refine v_iload_n cx 1 d_M_moreLine_109 rfl rfl ?_
      refine v_callVv0 (st := []) cx (s_M_wrong hr2 h) yk_M_wrong lk_M_240 zl_41 rfl rfl rfl (Nat.le_of_ble_eq_true rfl) ⟨Nat.le_of_ble_eq_true rfl, Nat.le_of_ble_eq_true rfl⟩ ⟨rfl, rfl⟩ ⟨(Nat.le_of_ble_eq_true rfl), (Nat.le_of_ble_eq_true rfl)⟩ d_M_moreLine_110 (fun σ9 h => ?_)
      exact rt _ _ _ _ _ (Nat.le_of_ble_eq_true rfl) (Nat.le_of_ble_eq_true rfl) d_M_moreLine_113 h
    · replace h := h.2 c8
      refine v_aload_n cx 0 d_M_moreLine_96 rfl rfl ?_
      refine gf_M_282 cx d_M_moreLine_97 (fun hl10 => ?_)
      refine v_iload_n cx 2 d_M_moreLine_100 rfl rfl ?_
      refine v_ishr cx d_M_moreLine_101 ?_
      refine v_iconst cx d_M_moreLine_102 ?_
      refine v_iand cx d_M_moreLine_103 ?_
      refine v_iconst cx d_M_moreLine_104 ?_
      refine v_icmp_ne cx 114 d_M_moreLine_105 (by decide) (zR_and _ _) ⟨by decide, by decide⟩ (fun c11 => ?_) (fun c11 => ?_)
      · replace h := h.1 c11
        refine v_aload_n cx 0 d_M_moreLine_114 rfl rfl ?_
        refine v_dup cx d_M_moreLine_115 rfl ?_
        refine gf_M_282 cx d_M_moreLine_116 (fun hl12 => ?_)
        refine v_iconst cx d_M_moreLine_119 ?_
        refine v_iload_n cx 2 d_M_moreLine_120 rfl rfl ?_
        refine v_ishl cx d_M_moreLine_121 ?_
        refine v_ior cx d_M_moreLine_122 ?_
        refine pf_M_282 cx (zR_or _ _) d_M_moreLine_123 ?_
        refine v_ns (fun σ13 eσ13 => ?_)
        replace h := h σ13 eσ13
        refine v_aload_n cx 0 d_M_moreLine_126 rfl rfl ?_
        refine gf_M_38 cx d_M_moreLine_127 ?_
        refine v_iconst cx d_M_moreLine_130 ?_
        refine v_iload_n cx 2 d_M_moreLine_131 rfl rfl ?_
        refine v_iadd cx d_M_moreLine_132 ?_
        refine v_aload_n cx 0 d_M_moreLine_133 rfl rfl ?_
        refine v_iload_n cx 2 d_M_moreLine_134 rfl rfl ?_
        obtain ⟨J143, hJ143, h⟩ := h
        have G143 : ∀ (w14 : Int), J143 w14 → zR w14 → zV Ω Γ rm_M_moreLine 4 Q 1 11 zLy ad σ13 143 [(0, .ref (ad 41)), (2, .int (zI r7))] [.int (zI w14), .ref (ad 41), .int (zI (2 + r7)), .ref (ad 50)] := by
          intro w14 hJ hw14
          replace h := hJ143 w14 hJ hw14
          refine v_aload_n cx 0 d_M_moreLine_143 rfl rfl ?_
          refine gf_M_22 cx d_M_moreLine_144 ?_
          refine v_iload_n cx 1 d_M_moreLine_147 rfl rfl ?_
          obtain ⟨hb15, h⟩ := h
          refine v_iald cx zl_46 (by decide) hb15.1 hb15.2 d_M_moreLine_148 (fun hl16 => ?_)
          refine v_callVi0 (st := [.int (zI (2 + r7)), .ref (ad 50)]) cx (s_M_number hw14 hl16 h) yk_M_number lk_M_252 zl_41 rfl rfl rfl (Nat.le_of_ble_eq_true rfl) ⟨Nat.le_of_ble_eq_true rfl, Nat.le_of_ble_eq_true rfl⟩ ⟨rfl, rfl⟩ ⟨(Nat.le_of_ble_eq_true rfl), (Nat.le_of_ble_eq_true rfl)⟩ d_M_moreLine_149 (fun r18 σ17 hr18 h => ?_)
          obtain ⟨hb19, h⟩ := h
          refine v_iast cx zl_50 (by decide) hb19.1 hb19.2 hr18 d_M_moreLine_152 ?_
          refine v_ns (fun σ20 eσ20 => ?_)
          replace h := h σ20 eσ20
          exact rt _ _ _ _ _ (Nat.le_of_ble_eq_true rfl) (Nat.le_of_ble_eq_true rfl) d_M_moreLine_153 h
        refine v_if_ne cx 142 d_M_moreLine_135 (by decide) hr7 (fun c21 => ?_) (fun c21 => ?_)
        · replace h := h.1 c21
          refine v_iconst cx d_M_moreLine_142 ?_
          refine v_sb (lv' := [(0, .ref (ad 41)), (2, .int (zI r7))]) [0, 2] rfl ?_
          have hJ2 := h
          exact G143 _ hJ2 ⟨by decide, by decide⟩
        · replace h := h.2 c21
          refine v_iconst cx d_M_moreLine_138 ?_
          refine v_goto cx 143 d_M_moreLine_139 (by decide) ?_
          refine v_sb (lv' := [(0, .ref (ad 41)), (2, .int (zI r7))]) [0, 2] rfl ?_
          have hJ2 := h
          exact G143 _ hJ2 ⟨by decide, by decide⟩
      · replace h := h.2 c11
        refine v_aload_n cx 0 d_M_moreLine_108 rfl rfl ?_
        refine v_iload_n cx 1 d_M_moreLine_109 rfl rfl ?_
        refine v_callVv0 (st := []) cx (s_M_wrong hr2 h) yk_M_wrong lk_M_240 zl_41 rfl rfl rfl (Nat.le_of_ble_eq_true rfl) ⟨Nat.le_of_ble_eq_true rfl, Nat.le_of_ble_eq_true rfl⟩ ⟨rfl, rfl⟩ ⟨(Nat.le_of_ble_eq_true rfl), (Nat.le_of_ble_eq_true rfl)⟩ d_M_moreLine_110 (fun σ22 h => ?_)
        exact rt _ _ _ _ _ (Nat.le_of_ble_eq_true rfl) (Nat.le_of_ble_eq_true rfl) d_M_moreLine_113 h
  · replace h := h.2 c5
    refine v_aload_n cx 0 d_M_moreLine_15 rfl rfl ?_
    refine v_callVi0 (st := []) cx (s_M_here  h) yk_M_here lk_M_224 zl_41 rfl rfl rfl (Nat.le_of_ble_eq_true rfl) ⟨Nat.le_of_ble_eq_true rfl, Nat.le_of_ble_eq_true rfl⟩ ⟨rfl, rfl⟩ ⟨(Nat.le_of_ble_eq_true rfl), (Nat.le_of_ble_eq_true rfl)⟩ d_M_moreLine_16 (fun r24 σ23 hr24 h => ?_)
    refine v_istore_n (lv' := [(0, .ref (ad 41)), (1, .int (zI r2)), (2, .int (zI r24))]) cx d_M_moreLine_19 rfl (by decide) rfl rfl ?_
    refine v_aload_n cx 0 d_M_moreLine_20 rfl rfl ?_
    refine v_iconst cx d_M_moreLine_21 ?_
    refine v_aload_n cx 0 d_M_moreLine_22 rfl rfl ?_
    refine gf_M_38 cx d_M_moreLine_23 ?_
    refine v_iconst cx d_M_moreLine_26 ?_
    refine v_iald cx zl_50 (by decide) (by decide) (by decide) d_M_moreLine_27 (fun hl25 => ?_)
    refine v_aload_n cx 0 d_M_moreLine_28 rfl rfl ?_
    refine gf_M_38 cx d_M_moreLine_29 ?_
    refine v_iconst cx d_M_moreLine_32 ?_
    refine v_iald cx zl_50 (by decide) (by decide) (by decide) d_M_moreLine_33 (fun hl26 => ?_)
    refine v_imul cx d_M_moreLine_34 ?_
    refine v_iconst cx d_M_moreLine_35 ?_
    refine v_isub cx d_M_moreLine_36 ?_
    obtain ⟨hr27, h⟩ := h
    refine v_callVi0 (st := []) cx (s_M_number ⟨by decide, by decide⟩ hr27 h) yk_M_number lk_M_252 zl_41 rfl rfl rfl (Nat.le_of_ble_eq_true rfl) ⟨Nat.le_of_ble_eq_true rfl, Nat.le_of_ble_eq_true rfl⟩ ⟨rfl, rfl⟩ ⟨(Nat.le_of_ble_eq_true rfl), (Nat.le_of_ble_eq_true rfl)⟩ d_M_moreLine_37 (fun r29 σ28 hr29 h => ?_)
    refine v_istore_n (lv' := [(0, .ref (ad 41)), (1, .int (zI r2)), (2, .int (zI r24)), (3, .int (zI r29))]) cx d_M_moreLine_40 rfl (by decide) rfl rfl ?_
    refine v_aload_n cx 0 d_M_moreLine_41 rfl rfl ?_
    refine gf_M_34 cx d_M_moreLine_42 (fun hl30 => ?_)
    refine v_iconst cx d_M_moreLine_45 ?_
    obtain ⟨J67, hJ67, h⟩ := h
    have G67 : ∀ (σ31 : zS), J67 σ31 → zV Ω Γ rm_M_moreLine 4 Q 0 0 zLy ad σ31 67 [(0, .ref (ad 41)), (3, .int (zI r29))] [] := by
      intro σ31 hJ 
      replace h := hJ67 σ31 hJ 
      refine v_aload_n cx 0 d_M_moreLine_67 rfl rfl ?_
      refine gf_M_34 cx d_M_moreLine_68 (fun hl32 => ?_)
      refine v_iconst cx d_M_moreLine_71 ?_
      refine v_icmp_ne cx 85 d_M_moreLine_72 (by decide) hl32 ⟨by decide, by decide⟩ (fun c33 => ?_) (fun c33 => ?_)
      · replace h := h.1 c33
        exact rt _ _ _ _ _ (Nat.le_of_ble_eq_true rfl) (Nat.le_of_ble_eq_true rfl) d_M_moreLine_85 h
      · replace h := h.2 c33
        refine v_aload_n cx 0 d_M_moreLine_75 rfl rfl ?_
        refine gf_M_38 cx d_M_moreLine_76 ?_
        refine v_bipush cx (by decide) d_M_moreLine_79 ?_
        refine v_iload_n cx 1 d_M_moreLine_81 rfl rfl ?_
        refine v_iadd cx d_M_moreLine_82 ?_
        refine v_iconst cx d_M_moreLine_83 ?_
        obtain ⟨hb34, h⟩ := h
        refine v_iast cx zl_50 (by decide) hb34.1 hb34.2 ⟨by decide, by decide⟩ d_M_moreLine_84 ?_
        refine v_ns (fun σ35 eσ35 => ?_)
        replace h := h σ35 eσ35
        exact rt _ _ _ _ _ (Nat.le_of_ble_eq_true rfl) (Nat.le_of_ble_eq_true rfl) d_M_moreLine_85 h
    refine v_icmp_ne cx 67 d_M_moreLine_46 (by decide) hl30 ⟨by decide, by decide⟩ (fun c36 => ?_) (fun c36 => ?_)
    · replace h := h.1 c36
      refine v_sb (lv' := [(0, .ref (ad 41)), (3, .int (zI r29))]) [0, 3] rfl ?_
      have hJ2 := h
      exact G67 _ hJ2 
    · replace h := h.2 c36
      refine v_aload_n cx 0 d_M_moreLine_49 rfl rfl ?_
      refine gf_M_38 cx d_M_moreLine_50 ?_
      refine v_bipush cx (by decide) d_M_moreLine_53 ?_
      refine v_iload_n cx 3 d_M_moreLine_55 rfl rfl ?_
      refine v_iadd cx d_M_moreLine_56 ?_
      obtain ⟨hb37, h⟩ := h
      refine v_iald cx zl_50 (by decide) hb37.1 hb37.2 d_M_moreLine_57 (fun hl38 => ?_)
      refine v_iconst cx d_M_moreLine_58 ?_
      refine v_icmp_ne cx 67 d_M_moreLine_59 (by decide) hl38 ⟨by decide, by decide⟩ (fun c39 => ?_) (fun c39 => ?_)
      · replace h := h.1 c39
        refine v_sb (lv' := [(0, .ref (ad 41)), (3, .int (zI r29))]) [0, 3] rfl ?_
        have hJ2 := h
        exact G67 _ hJ2 
      · replace h := h.2 c39
        refine v_aload_n cx 0 d_M_moreLine_62 rfl rfl ?_
        refine v_iload_n cx 2 d_M_moreLine_63 rfl rfl ?_
        refine v_callVv0 (st := []) cx (s_M_wrong hr24 h) yk_M_wrong lk_M_240 zl_41 rfl rfl rfl (Nat.le_of_ble_eq_true rfl) ⟨Nat.le_of_ble_eq_true rfl, Nat.le_of_ble_eq_true rfl⟩ ⟨rfl, rfl⟩ ⟨(Nat.le_of_ble_eq_true rfl), (Nat.le_of_ble_eq_true rfl)⟩ d_M_moreLine_64 (fun σ40 h => ?_)
        refine v_sb (lv' := [(0, .ref (ad 41)), (3, .int (zI r29))]) [0, 3] rfl ?_
        have hJ2 := h
        exact G67 _ hJ2 
def q_M_land (K : Int → zS → Prop) (σ : zS) : Prop :=
  ∀ σ1 : zS, σ1 = zU σ 41 14 (-1) → ∀ σ3 : zS, σ3 = zU σ1 41 12 (σ1 41 11) → ∀ σ4 : zS, σ4 = zU σ3 41 11 0 → ∀ σ5 : zS, σ5 = zU σ4 41 13 0 → ∀ σ6 : zS, σ6 = zU σ5 41 34 0 → ∃ (I30 : Int → zS → Prop) (μ30 : Int → zS → Nat), (I30 0 σ6) ∧ ∀ (y7 : Int) (σ8 : zS), I30 y7 σ8 → zR y7 → 
  (499 ≤ y7 →
    ∃ (I52 : Int → zS → Prop) (μ52 : Int → zS → Nat), (I52 0 σ8) ∧ ∀ (y10 : Int) (σ11 : zS), I52 y10 σ11 → zR y10 → 
    (11 ≤ y10 →
      q_M_expects [108, 97, 110, 100] (fun σ13 =>
        q_M_number 2 9 (fun r15 σ14 =>
          q_M_number 2 9 (fun r17 σ16 =>
            ((σ16 41 14) ≠ (-1) →
              q_M_heights (fun σ20 =>
                ∃ (I129 : Int → zS → Prop) (μ129 : Int → zS → Nat), (I129 0 σ20) ∧ ∀ (y21 : Int) (σ22 : zS), I129 y21 σ22 → zR y21 → 
                (0 ≤ y21 ∧ y21 < 16) ∧ (∃ J192 : zS → Prop, (∀ (σ24 : zS), J192 σ24 → 
                    ∃ J206 : Int → Prop, (∀ (w26 : Int), J206 w26 → zR w26 → 
                      ∀ σ27 : zS, σ27 = zU σ24 41 0 w26 → ((σ27 41 0) ≤ 0 →
                        ∃ (I220 : Int → zS → Prop) (μ220 : Int → zS → Nat), (I220 0 σ27) ∧ ∀ (y30 : Int) (σ31 : zS), I220 y30 σ31 → zR y30 → 
                        (499 ≤ y30 →
                          ∀ σ33 : zS, σ33 = zU σ31 41 3 0 → q_M_places (fun r35 σ34 =>
                            K r35 σ34) σ33) ∧ (y30 < 499 →
                          (0 ≤ y30 ∧ y30 < 499) ∧ (∀ σ38 : zS, σ38 = zU σ31 42 y30 (σ31 50 y30) → I220 (y30 + 1) σ38 ∧ zR (y30 + 1) ∧ μ220 (y30 + 1) σ38 < μ220 y30 σ31))) ∧ (0 < (σ27 41 0) →
                        K 0 σ27)) ∧
                    (((σ24 41 14) ≠ (-1) →
                        J206 1) ∧ ((σ24 41 14) = (-1) →
                        J206 0))) ∧
                  (((σ22 41 14) ≠ (-1) →
                      J192 σ22) ∧ ((σ22 41 14) = (-1) →
                      q_M_here (fun r44 σ43 =>
                        ((σ43 41 12) ≤ r44 →
                          J192 σ43) ∧ (r44 < (σ43 41 12) →
                          q_M_mustSign (fun σ47 =>
                            ∃ J174 : zS → Prop, (∀ (σ49 : zS), J174 σ49 → 
                              ((σ49 41 14) ≠ (-1) →
                                I129 (y21 + 1) σ49 ∧ zR (y21 + 1) ∧ μ129 (y21 + 1) σ49 < μ129 y21 σ22) ∧ ((σ49 41 14) = (-1) →
                                q_M_moreLine (fun σ54 =>
                                  I129 (y21 + 1) σ54 ∧ zR (y21 + 1) ∧ μ129 (y21 + 1) σ54 < μ129 y21 σ22) σ49)) ∧
                            (((σ47 41 14) ≠ (-1) →
                                J174 σ47) ∧ ((σ47 41 14) = (-1) →
                                (y21 ≠ 14 →
                                  J174 σ47) ∧ (y21 = 14 →
                                  q_M_here (fun r60 σ59 =>
                                    q_M_wrong r60 (fun σ61 =>
                                      J174 σ61) σ59) σ47)))) σ43)) σ22)))) σ16) ∧ ((σ16 41 14) = (-1) →
              ∀ σ62 : zS, σ62 = zU σ16 50 0 r15 → ∀ σ63 : zS, σ63 = zU σ62 50 1 r17 → q_M_heights (fun σ64 =>
                ∃ (I129 : Int → zS → Prop) (μ129 : Int → zS → Nat), (I129 0 σ64) ∧ ∀ (y65 : Int) (σ66 : zS), I129 y65 σ66 → zR y65 → 
                (0 ≤ y65 ∧ y65 < 16) ∧ (∃ J192 : zS → Prop, (∀ (σ68 : zS), J192 σ68 → 
                    ∃ J206 : Int → Prop, (∀ (w70 : Int), J206 w70 → zR w70 → 
                      ∀ σ71 : zS, σ71 = zU σ68 41 0 w70 → ((σ71 41 0) ≤ 0 →
                        ∃ (I220 : Int → zS → Prop) (μ220 : Int → zS → Nat), (I220 0 σ71) ∧ ∀ (y74 : Int) (σ75 : zS), I220 y74 σ75 → zR y74 → 
                        (499 ≤ y74 →
                          ∀ σ77 : zS, σ77 = zU σ75 41 3 0 → q_M_places (fun r79 σ78 =>
                            K r79 σ78) σ77) ∧ (y74 < 499 →
                          (0 ≤ y74 ∧ y74 < 499) ∧ (∀ σ82 : zS, σ82 = zU σ75 42 y74 (σ75 50 y74) → I220 (y74 + 1) σ82 ∧ zR (y74 + 1) ∧ μ220 (y74 + 1) σ82 < μ220 y74 σ75))) ∧ (0 < (σ71 41 0) →
                        K 0 σ71)) ∧
                    (((σ68 41 14) ≠ (-1) →
                        J206 1) ∧ ((σ68 41 14) = (-1) →
                        J206 0))) ∧
                  (((σ66 41 14) ≠ (-1) →
                      J192 σ66) ∧ ((σ66 41 14) = (-1) →
                      q_M_here (fun r88 σ87 =>
                        ((σ87 41 12) ≤ r88 →
                          J192 σ87) ∧ (r88 < (σ87 41 12) →
                          q_M_mustSign (fun σ91 =>
                            ∃ J174 : zS → Prop, (∀ (σ93 : zS), J174 σ93 → 
                              ((σ93 41 14) ≠ (-1) →
                                I129 (y65 + 1) σ93 ∧ zR (y65 + 1) ∧ μ129 (y65 + 1) σ93 < μ129 y65 σ66) ∧ ((σ93 41 14) = (-1) →
                                q_M_moreLine (fun σ98 =>
                                  I129 (y65 + 1) σ98 ∧ zR (y65 + 1) ∧ μ129 (y65 + 1) σ98 < μ129 y65 σ66) σ93)) ∧
                            (((σ91 41 14) ≠ (-1) →
                                J174 σ91) ∧ ((σ91 41 14) = (-1) →
                                (y65 ≠ 14 →
                                  J174 σ91) ∧ (y65 = 14 →
                                  q_M_here (fun r104 σ103 =>
                                    q_M_wrong r104 (fun σ105 =>
                                      J174 σ105) σ103) σ91)))) σ87)) σ66)))) σ63)) σ14) σ13) σ11) ∧ (y10 < 11 →
      (0 ≤ y10 ∧ y10 < 11) ∧ ((0 ≤ 2 + y10 ∧ 2 + y10 < 499) ∧ (∀ σ109 : zS, σ109 = zU σ11 50 (2 + y10) (σ11 45 y10) → I52 (y10 + 1) σ109 ∧ zR (y10 + 1) ∧ μ52 (y10 + 1) σ109 < μ52 y10 σ11)))) ∧ (y7 < 499 →
    (0 ≤ y7 ∧ y7 < 499) ∧ (∀ σ113 : zS, σ113 = zU σ8 50 y7 0 → I30 (y7 + 1) σ113 ∧ zR (y7 + 1) ∧ μ30 (y7 + 1) σ113 < μ30 y7 σ8))
abbrev rm_M_land : Room := { frames := 7, cells := 16, slots := 176, locals := 153 }
set_option maxRecDepth 20000 in
set_option maxHeartbeats 4000000 in
theorem s_M_land {Ω : zO} {ad : Nat → Nat} {K : Int → zS → Prop} {σ : zS}  (h : q_M_land K σ) : zMi Ω y_M_land (.code y_M_land c_M_land 4 (some .int)) rm_M_land zLy ad [.ref (ad 41)] σ K := by
  refine z_ofi (lv := [(0, .ref (ad 41))]) (by decide) rfl (Nat.le_of_ble_eq_true rfl) ?_
  intro Γ Q cx rt
  unfold q_M_land at h
  refine v_aload_n cx 0 d_M_land_0 rfl rfl ?_
  refine v_iconst cx d_M_land_1 ?_
  refine pf_M_34 cx ⟨by decide, by decide⟩ d_M_land_2 ?_
  refine v_ns (fun σ1 eσ1 => ?_)
  replace h := h σ1 eσ1
  refine v_aload_n cx 0 d_M_land_5 rfl rfl ?_
  refine v_aload_n cx 0 d_M_land_6 rfl rfl ?_
  refine gf_M_215 cx d_M_land_7 (fun hl2 => ?_)
  refine pf_M_221 cx hl2 d_M_land_10 ?_
  refine v_ns (fun σ3 eσ3 => ?_)
  replace h := h σ3 eσ3
  refine v_aload_n cx 0 d_M_land_13 rfl rfl ?_
  refine v_iconst cx d_M_land_14 ?_
  refine pf_M_215 cx ⟨by decide, by decide⟩ d_M_land_15 ?_
  refine v_ns (fun σ4 eσ4 => ?_)
  replace h := h σ4 eσ4
  refine v_aload_n cx 0 d_M_land_18 rfl rfl ?_
  refine v_iconst cx d_M_land_19 ?_
  refine pf_M_218 cx ⟨by decide, by decide⟩ d_M_land_20 ?_
  refine v_ns (fun σ5 eσ5 => ?_)
  replace h := h σ5 eσ5
  refine v_aload_n cx 0 d_M_land_23 rfl rfl ?_
  refine v_iconst cx d_M_land_24 ?_
  refine pf_M_282 cx ⟨by decide, by decide⟩ d_M_land_25 ?_
  refine v_ns (fun σ6 eσ6 => ?_)
  replace h := h σ6 eσ6
  refine v_iconst cx d_M_land_28 ?_
  refine v_istore_n (lv' := [(0, .ref (ad 41)), (1, .int (zI 0))]) cx d_M_land_29 rfl (by decide) rfl rfl ?_
  obtain ⟨I30, μ30, h0, h⟩ := h
  have L30 : ∀ (N30 : Nat) (y7 : Int) (σ8 : zS), μ30 y7 σ8 < N30 → I30 y7 σ8 → zR y7 → zV Ω Γ rm_M_land 4 Q 0 0 zLy ad σ8 30 [(0, .ref (ad 41)), (1, .int (zI y7))] [] := by
    intro N30
    induction N30 with
    | zero => intro y7 σ8 hm; exact absurd hm (Nat.not_lt_zero _)
    | succ N30 ih30 =>
      intro y7 σ8 hmm30 hI hy7
      replace h := h y7 σ8 hI hy7
      refine v_iload_n cx 1 d_M_land_30 rfl rfl ?_
      refine v_sipush cx (by decide) d_M_land_31 ?_
      refine v_icmp_ge cx 50 d_M_land_34 (by decide) hy7 ⟨by decide, by decide⟩ (fun c9 => ?_) (fun c9 => ?_)
      · replace h := h.1 c9
        refine v_iconst cx d_M_land_50 ?_
        refine v_istore_n (lv' := [(0, .ref (ad 41)), (1, .int (zI 0))]) cx d_M_land_51 rfl (by decide) rfl rfl ?_
        obtain ⟨I52, μ52, h0, h⟩ := h
        have L52 : ∀ (N52 : Nat) (y10 : Int) (σ11 : zS), μ52 y10 σ11 < N52 → I52 y10 σ11 → zR y10 → zV Ω Γ rm_M_land 4 Q 0 0 zLy ad σ11 52 [(0, .ref (ad 41)), (1, .int (zI y10))] [] := by
          intro N52
          induction N52 with
          | zero => intro y10 σ11 hm; exact absurd hm (Nat.not_lt_zero _)
          | succ N52 ih52 =>
            intro y10 σ11 hmm52 hI hy10
            replace h := h y10 σ11 hI hy10
            refine v_iload_n cx 1 d_M_land_52 rfl rfl ?_
            refine v_bipush cx (by decide) d_M_land_53 ?_
            refine v_icmp_ge cx 78 d_M_land_55 (by decide) hy10 ⟨by decide, by decide⟩ (fun c12 => ?_) (fun c12 => ?_)
            · replace h := h.1 c12
              refine v_aload_n cx 0 d_M_land_78 rfl rfl ?_
              refine v_ldcSw cx zsr_34 d_M_land_79 ?_
              refine v_callVv0 (st := []) cx (s_M_expects zsb_34 h) yk_M_expects lk_M_248 zl_41 rfl rfl rfl (Nat.le_of_ble_eq_true rfl) ⟨Nat.le_of_ble_eq_true rfl, Nat.le_of_ble_eq_true rfl⟩ ⟨rfl, rfl⟩ ⟨(Nat.le_of_ble_eq_true rfl), (Nat.le_of_ble_eq_true rfl)⟩ d_M_land_82 (fun σ13 h => ?_)
              refine v_aload_n cx 0 d_M_land_85 rfl rfl ?_
              refine v_iconst cx d_M_land_86 ?_
              refine v_bipush cx (by decide) d_M_land_87 ?_
              refine v_callVi0 (st := []) cx (s_M_number ⟨by decide, by decide⟩ ⟨by decide, by decide⟩ h) yk_M_number lk_M_252 zl_41 rfl rfl rfl (Nat.le_of_ble_eq_true rfl) ⟨Nat.le_of_ble_eq_true rfl, Nat.le_of_ble_eq_true rfl⟩ ⟨rfl, rfl⟩ ⟨(Nat.le_of_ble_eq_true rfl), (Nat.le_of_ble_eq_true rfl)⟩ d_M_land_89 (fun r15 σ14 hr15 h => ?_)
              refine v_istore_n (lv' := [(0, .ref (ad 41)), (1, .int (zI r15))]) cx d_M_land_92 rfl (by decide) rfl rfl ?_
              refine v_aload_n cx 0 d_M_land_93 rfl rfl ?_
              refine v_iconst cx d_M_land_94 ?_
              refine v_bipush cx (by decide) d_M_land_95 ?_
              refine v_callVi0 (st := []) cx (s_M_number ⟨by decide, by decide⟩ ⟨by decide, by decide⟩ h) yk_M_number lk_M_252 zl_41 rfl rfl rfl (Nat.le_of_ble_eq_true rfl) ⟨Nat.le_of_ble_eq_true rfl, Nat.le_of_ble_eq_true rfl⟩ ⟨rfl, rfl⟩ ⟨(Nat.le_of_ble_eq_true rfl), (Nat.le_of_ble_eq_true rfl)⟩ d_M_land_97 (fun r17 σ16 hr17 h => ?_)
              refine v_istore_n (lv' := [(0, .ref (ad 41)), (1, .int (zI r15)), (2, .int (zI r17))]) cx d_M_land_100 rfl (by decide) rfl rfl ?_
              refine v_aload_n cx 0 d_M_land_101 rfl rfl ?_
              refine gf_M_34 cx d_M_land_102 (fun hl18 => ?_)
              refine v_iconst cx d_M_land_105 ?_
              refine v_icmp_ne cx 123 d_M_land_106 (by decide) hl18 ⟨by decide, by decide⟩ (fun c19 => ?_) (fun c19 => ?_)
              · replace h := h.1 c19
                refine v_aload_n cx 0 d_M_land_123 rfl rfl ?_
                refine v_callVv0 (st := []) cx (s_M_heights  h) yk_M_heights lk_M_287 zl_41 rfl rfl rfl (Nat.le_of_ble_eq_true rfl) ⟨Nat.le_of_ble_eq_true rfl, Nat.le_of_ble_eq_true rfl⟩ ⟨rfl, rfl⟩ ⟨(Nat.le_of_ble_eq_true rfl), (Nat.le_of_ble_eq_true rfl)⟩ d_M_land_124 (fun σ20 h => ?_)
                refine v_iconst cx d_M_land_127 ?_
                refine v_istore_n (lv' := [(0, .ref (ad 41)), (1, .int (zI r15)), (2, .int (zI r17)), (3, .int (zI 0))]) cx d_M_land_128 rfl (by decide) rfl rfl ?_
                refine v_sb (lv' := [(0, .ref (ad 41)), (3, .int (zI 0))]) [0, 3] rfl ?_
                obtain ⟨I129, μ129, h0, h⟩ := h
                have L129 : ∀ (N129 : Nat) (y21 : Int) (σ22 : zS), μ129 y21 σ22 < N129 → I129 y21 σ22 → zR y21 → zV Ω Γ rm_M_land 4 Q (zG 1 y21) (zG 11 y21) zLy ad σ22 129 [(0, .ref (ad 41)), (3, .int (zI y21))] [] := by
                  intro N129
                  induction N129 with
                  | zero => intro y21 σ22 hm; exact absurd hm (Nat.not_lt_zero _)
                  | succ N129 ih129 =>
                    intro y21 σ22 hmm129 hI hy21
                    replace h := h y21 σ22 hI hy21
                    obtain ⟨hg129, h⟩ := h
                    refine v_aload_n cx 0 d_M_land_129 rfl rfl ?_
                    refine gf_M_34 cx d_M_land_130 (fun hl23 => ?_)
                    refine v_iconst cx d_M_land_133 ?_
                    obtain ⟨J192, hJ192, h⟩ := h
                    have G192 : ∀ (σ24 : zS), J192 σ24 → zV Ω Γ rm_M_land 4 Q 16 176 zLy ad σ24 192 [(0, .ref (ad 41))] [] := by
                      intro σ24 hJ 
                      replace h := hJ192 σ24 hJ 
                      refine v_aload_n cx 0 d_M_land_192 rfl rfl ?_
                      refine v_aload_n cx 0 d_M_land_193 rfl rfl ?_
                      refine gf_M_34 cx d_M_land_194 (fun hl25 => ?_)
                      refine v_iconst cx d_M_land_197 ?_
                      obtain ⟨J206, hJ206, h⟩ := h
                      have G206 : ∀ (w26 : Int), J206 w26 → zR w26 → zV Ω Γ rm_M_land 4 Q 16 176 zLy ad σ24 206 [(0, .ref (ad 41))] [.int (zI w26), .ref (ad 41)] := by
                        intro w26 hJ hw26
                        replace h := hJ206 w26 hJ hw26
                        refine pf_M_87 cx hw26 d_M_land_206 ?_
                        refine v_ns (fun σ27 eσ27 => ?_)
                        replace h := h σ27 eσ27
                        refine v_aload_n cx 0 d_M_land_209 rfl rfl ?_
                        refine gf_M_87 cx d_M_land_210 (fun hl28 => ?_)
                        refine v_if_le cx 218 d_M_land_213 (by decide) hl28 (fun c29 => ?_) (fun c29 => ?_)
                        · replace h := h.1 c29
                          refine v_iconst cx d_M_land_218 ?_
                          refine v_istore_n (lv' := [(0, .ref (ad 41)), (3, .int (zI 0))]) cx d_M_land_219 rfl (by decide) rfl rfl ?_
                          obtain ⟨I220, μ220, h0, h⟩ := h
                          have L220 : ∀ (N220 : Nat) (y30 : Int) (σ31 : zS), μ220 y30 σ31 < N220 → I220 y30 σ31 → zR y30 → zV Ω Γ rm_M_land 4 Q 16 176 zLy ad σ31 220 [(0, .ref (ad 41)), (3, .int (zI y30))] [] := by
                            intro N220
                            induction N220 with
                            | zero => intro y30 σ31 hm; exact absurd hm (Nat.not_lt_zero _)
                            | succ N220 ih220 =>
                              intro y30 σ31 hmm220 hI hy30
                              replace h := h y30 σ31 hI hy30
                              refine v_iload_n cx 1 d_M_land_220 rfl rfl ?_
                              refine v_sipush cx (by decide) d_M_land_221 ?_
                              refine v_icmp_ge cx 245 d_M_land_224 (by decide) hy30 ⟨by decide, by decide⟩ (fun c32 => ?_) (fun c32 => ?_)
                              · replace h := h.1 c32
                                refine v_aload_n cx 0 d_M_land_245 rfl rfl ?_
                                refine v_iconst cx d_M_land_246 ?_
                                refine pf_M_293 cx ⟨by decide, by decide⟩ d_M_land_247 ?_
                                refine v_ns (fun σ33 eσ33 => ?_)
                                replace h := h σ33 eσ33
                                refine v_aload_n cx 0 d_M_land_250 rfl rfl ?_
                                refine v_callVi0 (st := []) cx (s_M_places  h) yk_M_places lk_M_90 zl_41 rfl rfl rfl (Nat.le_of_ble_eq_true rfl) ⟨Nat.le_of_ble_eq_true rfl, Nat.le_of_ble_eq_true rfl⟩ ⟨rfl, rfl⟩ ⟨(Nat.le_of_ble_eq_true rfl), (Nat.le_of_ble_eq_true rfl)⟩ d_M_land_251 (fun r35 σ34 hr35 h => ?_)
                                exact rt _ _ _ _ _ _ (Nat.le_of_ble_eq_true rfl) (Nat.le_of_ble_eq_true rfl) d_M_land_254 hr35 h
                              · replace h := h.2 c32
                                refine v_aload_n cx 0 d_M_land_227 rfl rfl ?_
                                refine gf_M_7 cx d_M_land_228 ?_
                                refine v_iload_n cx 1 d_M_land_231 rfl rfl ?_
                                refine v_aload_n cx 0 d_M_land_232 rfl rfl ?_
                                refine gf_M_38 cx d_M_land_233 ?_
                                refine v_iload_n cx 1 d_M_land_236 rfl rfl ?_
                                obtain ⟨hb36, h⟩ := h
                                refine v_iald cx zl_50 (by decide) hb36.1 hb36.2 d_M_land_237 (fun hl37 => ?_)
                                refine v_iast cx zl_42 (by decide) hb36.1 hb36.2 hl37 d_M_land_238 ?_
                                refine v_ns (fun σ38 eσ38 => ?_)
                                replace h := h σ38 eσ38
                                refine v_iinc (lv' := [(0, .ref (ad 41)), (3, .int (zI (y30 + 1)))]) cx 1 d_M_land_239 rfl (by decide) rfl rfl ?_
                                refine v_goto cx 220 d_M_land_242 (by decide) ?_
                                obtain ⟨hI2, hz40, hm2⟩ := h
                                exact ih220 _ _ (Nat.lt_of_lt_of_le hm2 (Nat.le_of_lt_succ hmm220)) hI2 hz40
                          exact L220 _ _ _ (Nat.lt_succ_self _) h0 ⟨by decide, by decide⟩
                        · replace h := h.2 c29
                          refine v_iconst cx d_M_land_216 ?_
                          exact rt _ _ _ _ _ _ (Nat.le_of_ble_eq_true rfl) (Nat.le_of_ble_eq_true rfl) d_M_land_217 ⟨by decide, by decide⟩ h
                      refine v_icmp_ne cx 205 d_M_land_198 (by decide) hl25 ⟨by decide, by decide⟩ (fun c41 => ?_) (fun c41 => ?_)
                      · replace h := h.1 c41
                        refine v_iconst cx d_M_land_205 ?_
                        have hJ2 := h
                        exact G206 _ hJ2 ⟨by decide, by decide⟩
                      · replace h := h.2 c41
                        refine v_iconst cx d_M_land_201 ?_
                        refine v_goto cx 206 d_M_land_202 (by decide) ?_
                        have hJ2 := h
                        exact G206 _ hJ2 ⟨by decide, by decide⟩
                    refine v_icmp_ne cx 192 d_M_land_134 (by decide) hl23 ⟨by decide, by decide⟩ (fun c42 => ?_) (fun c42 => ?_)
                    · replace h := h.1 c42
                      refine v_sb (lv' := [(0, .ref (ad 41))]) [0] rfl ?_
                      refine v_widen (k' := 16) (n' := 176) (zG1_le hg129) (zG11_le hg129) ?_
                      have hJ2 := h
                      exact G192 _ hJ2 
                    · replace h := h.2 c42
                      refine v_aload_n cx 0 d_M_land_137 rfl rfl ?_
                      refine v_callVi0 (st := []) cx (s_M_here  h) yk_M_here lk_M_224 zl_41 rfl rfl rfl (Nat.le_of_ble_eq_true rfl) ⟨Nat.le_of_ble_eq_true rfl, Nat.le_of_ble_eq_true rfl⟩ ⟨rfl, rfl⟩ ⟨(zG1_le hg129), (zG11_le hg129)⟩ d_M_land_138 (fun r44 σ43 hr44 h => ?_)
                      refine v_aload_n cx 0 d_M_land_141 rfl rfl ?_
                      refine gf_M_221 cx d_M_land_142 (fun hl45 => ?_)
                      refine v_icmp_ge cx 192 d_M_land_145 (by decide) hr44 hl45 (fun c46 => ?_) (fun c46 => ?_)
                      · replace h := h.1 c46
                        refine v_sb (lv' := [(0, .ref (ad 41))]) [0] rfl ?_
                        refine v_widen (k' := 16) (n' := 176) (zG1_le hg129) (zG11_le hg129) ?_
                        have hJ2 := h
                        exact G192 _ hJ2 
                      · replace h := h.2 c46
                        refine v_aload_n cx 0 d_M_land_148 rfl rfl ?_
                        refine v_callVv0 (st := []) cx (s_M_mustSign  h) yk_M_mustSign lk_M_243 zl_41 rfl rfl rfl (Nat.le_of_ble_eq_true rfl) ⟨Nat.le_of_ble_eq_true rfl, Nat.le_of_ble_eq_true rfl⟩ ⟨rfl, rfl⟩ ⟨(zG1_le hg129), (zG11_le hg129)⟩ d_M_land_149 (fun σ47 h => ?_)
                        refine v_aload_n cx 0 d_M_land_152 rfl rfl ?_
                        refine gf_M_34 cx d_M_land_153 (fun hl48 => ?_)
                        refine v_iconst cx d_M_land_156 ?_
                        obtain ⟨J174, hJ174, h⟩ := h
                        have G174 : ∀ (σ49 : zS), J174 σ49 → zV Ω Γ rm_M_land 4 Q (zG 1 y21) (zG 11 y21) zLy ad σ49 174 [(0, .ref (ad 41)), (3, .int (zI y21))] [] := by
                          intro σ49 hJ 
                          replace h := hJ174 σ49 hJ 
                          refine v_aload_n cx 0 d_M_land_174 rfl rfl ?_
                          refine gf_M_34 cx d_M_land_175 (fun hl50 => ?_)
                          refine v_iconst cx d_M_land_178 ?_
                          refine v_icmp_ne cx 186 d_M_land_179 (by decide) hl50 ⟨by decide, by decide⟩ (fun c51 => ?_) (fun c51 => ?_)
                          · replace h := h.1 c51
                            refine v_iinc (lv' := [(0, .ref (ad 41)), (3, .int (zI (y21 + 1)))]) cx 1 d_M_land_186 rfl (by decide) rfl rfl ?_
                            refine v_goto cx 129 d_M_land_189 (by decide) ?_
                            refine v_widen (k' := zG 1 (y21 + 1)) (n' := zG 11 (y21 + 1)) (zG1_um hg129) (zG11_um hg129) ?_
                            obtain ⟨hI2, hz53, hm2⟩ := h
                            exact ih129 _ _ (Nat.lt_of_lt_of_le hm2 (Nat.le_of_lt_succ hmm129)) hI2 hz53
                          · replace h := h.2 c51
                            refine v_aload_n cx 0 d_M_land_182 rfl rfl ?_
                            refine v_callVv (st := []) cx (s_M_moreLine  h) yk_M_moreLine lk_M_290 zl_41 rfl rfl rfl (Nat.le_of_ble_eq_true rfl) ⟨Nat.le_of_ble_eq_true rfl, Nat.le_of_ble_eq_true rfl⟩ ⟨(zG1_c hg129), (zG11_c hg129)⟩ d_M_land_183 (fun σ54 h => ?_)
                            refine v_widen (k' := (zG 1 y21) + 1) (n' := (zG 11 y21) + 11) (Nat.le_refl _) (Nat.le_refl _) ?_
                            refine v_iinc (lv' := [(0, .ref (ad 41)), (3, .int (zI (y21 + 1)))]) cx 1 d_M_land_186 rfl (by decide) rfl rfl ?_
                            refine v_goto cx 129 d_M_land_189 (by decide) ?_
                            refine v_widen (k' := zG 1 (y21 + 1)) (n' := zG 11 (y21 + 1)) (zG1_uc hg129) (zG11_uc hg129) ?_
                            obtain ⟨hI2, hz56, hm2⟩ := h
                            exact ih129 _ _ (Nat.lt_of_lt_of_le hm2 (Nat.le_of_lt_succ hmm129)) hI2 hz56
                        refine v_icmp_ne cx 174 d_M_land_157 (by decide) hl48 ⟨by decide, by decide⟩ (fun c57 => ?_) (fun c57 => ?_)
                        · replace h := h.1 c57
                          have hJ2 := h
                          exact G174 _ hJ2 
                        · replace h := h.2 c57
                          refine v_iload_n cx 1 d_M_land_160 rfl rfl ?_
                          refine v_bipush cx (by decide) d_M_land_161 ?_
                          refine v_icmp_ne cx 174 d_M_land_163 (by decide) hy21 ⟨by decide, by decide⟩ (fun c58 => ?_) (fun c58 => ?_)
                          · replace h := h.1 c58
                            have hJ2 := h
                            exact G174 _ hJ2 
                          · replace h := h.2 c58
                            refine v_aload_n cx 0 d_M_land_166 rfl rfl ?_
                            refine v_aload_n cx 0 d_M_land_167 rfl rfl ?_
                            refine v_callVi0 (st := [.ref (ad 41)]) cx (s_M_here  h) yk_M_here lk_M_224 zl_41 rfl rfl rfl (Nat.le_of_ble_eq_true rfl) ⟨Nat.le_of_ble_eq_true rfl, Nat.le_of_ble_eq_true rfl⟩ ⟨rfl, rfl⟩ ⟨(zG1_le hg129), (zG11_le hg129)⟩ d_M_land_168 (fun r60 σ59 hr60 h => ?_)
                            refine v_callVv0 (st := []) cx (s_M_wrong hr60 h) yk_M_wrong lk_M_240 zl_41 rfl rfl rfl (Nat.le_of_ble_eq_true rfl) ⟨Nat.le_of_ble_eq_true rfl, Nat.le_of_ble_eq_true rfl⟩ ⟨rfl, rfl⟩ ⟨(zG1_le hg129), (zG11_le hg129)⟩ d_M_land_171 (fun σ61 h => ?_)
                            have hJ2 := h
                            exact G174 _ hJ2 
                refine v_widen (k' := zG 1 0) (n' := zG 11 0) (Nat.zero_le _) (Nat.zero_le _) ?_
                exact L129 _ _ _ (Nat.lt_succ_self _) h0 ⟨by decide, by decide⟩
              · replace h := h.2 c19
                refine v_aload_n cx 0 d_M_land_109 rfl rfl ?_
                refine gf_M_38 cx d_M_land_110 ?_
                refine v_iconst cx d_M_land_113 ?_
                refine v_iload_n cx 1 d_M_land_114 rfl rfl ?_
                refine v_iast cx zl_50 (by decide) (by decide) (by decide) hr15 d_M_land_115 ?_
                refine v_ns (fun σ62 eσ62 => ?_)
                replace h := h σ62 eσ62
                refine v_aload_n cx 0 d_M_land_116 rfl rfl ?_
                refine gf_M_38 cx d_M_land_117 ?_
                refine v_iconst cx d_M_land_120 ?_
                refine v_iload_n cx 2 d_M_land_121 rfl rfl ?_
                refine v_iast cx zl_50 (by decide) (by decide) (by decide) hr17 d_M_land_122 ?_
                refine v_ns (fun σ63 eσ63 => ?_)
                replace h := h σ63 eσ63
                refine v_aload_n cx 0 d_M_land_123 rfl rfl ?_
                refine v_callVv0 (st := []) cx (s_M_heights  h) yk_M_heights lk_M_287 zl_41 rfl rfl rfl (Nat.le_of_ble_eq_true rfl) ⟨Nat.le_of_ble_eq_true rfl, Nat.le_of_ble_eq_true rfl⟩ ⟨rfl, rfl⟩ ⟨(Nat.le_of_ble_eq_true rfl), (Nat.le_of_ble_eq_true rfl)⟩ d_M_land_124 (fun σ64 h => ?_)
                refine v_iconst cx d_M_land_127 ?_
                refine v_istore_n (lv' := [(0, .ref (ad 41)), (1, .int (zI r15)), (2, .int (zI r17)), (3, .int (zI 0))]) cx d_M_land_128 rfl (by decide) rfl rfl ?_
                refine v_sb (lv' := [(0, .ref (ad 41)), (3, .int (zI 0))]) [0, 3] rfl ?_
                obtain ⟨I129, μ129, h0, h⟩ := h
                have L129 : ∀ (N129 : Nat) (y65 : Int) (σ66 : zS), μ129 y65 σ66 < N129 → I129 y65 σ66 → zR y65 → zV Ω Γ rm_M_land 4 Q (zG 1 y65) (zG 11 y65) zLy ad σ66 129 [(0, .ref (ad 41)), (3, .int (zI y65))] [] := by
                  intro N129
                  induction N129 with
                  | zero => intro y65 σ66 hm; exact absurd hm (Nat.not_lt_zero _)
                  | succ N129 ih129 =>
                    intro y65 σ66 hmm129 hI hy65
                    replace h := h y65 σ66 hI hy65
                    obtain ⟨hg129, h⟩ := h
                    refine v_aload_n cx 0 d_M_land_129 rfl rfl ?_
                    refine gf_M_34 cx d_M_land_130 (fun hl67 => ?_)
                    refine v_iconst cx d_M_land_133 ?_
                    obtain ⟨J192, hJ192, h⟩ := h
                    have G192 : ∀ (σ68 : zS), J192 σ68 → zV Ω Γ rm_M_land 4 Q 16 176 zLy ad σ68 192 [(0, .ref (ad 41))] [] := by
                      intro σ68 hJ 
                      replace h := hJ192 σ68 hJ 
                      refine v_aload_n cx 0 d_M_land_192 rfl rfl ?_
                      refine v_aload_n cx 0 d_M_land_193 rfl rfl ?_
                      refine gf_M_34 cx d_M_land_194 (fun hl69 => ?_)
                      refine v_iconst cx d_M_land_197 ?_
                      obtain ⟨J206, hJ206, h⟩ := h
                      have G206 : ∀ (w70 : Int), J206 w70 → zR w70 → zV Ω Γ rm_M_land 4 Q 16 176 zLy ad σ68 206 [(0, .ref (ad 41))] [.int (zI w70), .ref (ad 41)] := by
                        intro w70 hJ hw70
                        replace h := hJ206 w70 hJ hw70
                        refine pf_M_87 cx hw70 d_M_land_206 ?_
                        refine v_ns (fun σ71 eσ71 => ?_)
                        replace h := h σ71 eσ71
                        refine v_aload_n cx 0 d_M_land_209 rfl rfl ?_
                        refine gf_M_87 cx d_M_land_210 (fun hl72 => ?_)
                        refine v_if_le cx 218 d_M_land_213 (by decide) hl72 (fun c73 => ?_) (fun c73 => ?_)
                        · replace h := h.1 c73
                          refine v_iconst cx d_M_land_218 ?_
                          refine v_istore_n (lv' := [(0, .ref (ad 41)), (3, .int (zI 0))]) cx d_M_land_219 rfl (by decide) rfl rfl ?_
                          obtain ⟨I220, μ220, h0, h⟩ := h
                          have L220 : ∀ (N220 : Nat) (y74 : Int) (σ75 : zS), μ220 y74 σ75 < N220 → I220 y74 σ75 → zR y74 → zV Ω Γ rm_M_land 4 Q 16 176 zLy ad σ75 220 [(0, .ref (ad 41)), (3, .int (zI y74))] [] := by
                            intro N220
                            induction N220 with
                            | zero => intro y74 σ75 hm; exact absurd hm (Nat.not_lt_zero _)
                            | succ N220 ih220 =>
                              intro y74 σ75 hmm220 hI hy74
                              replace h := h y74 σ75 hI hy74
                              refine v_iload_n cx 1 d_M_land_220 rfl rfl ?_
                              refine v_sipush cx (by decide) d_M_land_221 ?_
                              refine v_icmp_ge cx 245 d_M_land_224 (by decide) hy74 ⟨by decide, by decide⟩ (fun c76 => ?_) (fun c76 => ?_)
                              · replace h := h.1 c76
                                refine v_aload_n cx 0 d_M_land_245 rfl rfl ?_
                                refine v_iconst cx d_M_land_246 ?_
                                refine pf_M_293 cx ⟨by decide, by decide⟩ d_M_land_247 ?_
                                refine v_ns (fun σ77 eσ77 => ?_)
                                replace h := h σ77 eσ77
                                refine v_aload_n cx 0 d_M_land_250 rfl rfl ?_
                                refine v_callVi0 (st := []) cx (s_M_places  h) yk_M_places lk_M_90 zl_41 rfl rfl rfl (Nat.le_of_ble_eq_true rfl) ⟨Nat.le_of_ble_eq_true rfl, Nat.le_of_ble_eq_true rfl⟩ ⟨rfl, rfl⟩ ⟨(Nat.le_of_ble_eq_true rfl), (Nat.le_of_ble_eq_true rfl)⟩ d_M_land_251 (fun r79 σ78 hr79 h => ?_)
                                exact rt _ _ _ _ _ _ (Nat.le_of_ble_eq_true rfl) (Nat.le_of_ble_eq_true rfl) d_M_land_254 hr79 h
                              · replace h := h.2 c76
                                refine v_aload_n cx 0 d_M_land_227 rfl rfl ?_
                                refine gf_M_7 cx d_M_land_228 ?_
                                refine v_iload_n cx 1 d_M_land_231 rfl rfl ?_
                                refine v_aload_n cx 0 d_M_land_232 rfl rfl ?_
                                refine gf_M_38 cx d_M_land_233 ?_
                                refine v_iload_n cx 1 d_M_land_236 rfl rfl ?_
                                obtain ⟨hb80, h⟩ := h
                                refine v_iald cx zl_50 (by decide) hb80.1 hb80.2 d_M_land_237 (fun hl81 => ?_)
                                refine v_iast cx zl_42 (by decide) hb80.1 hb80.2 hl81 d_M_land_238 ?_
                                refine v_ns (fun σ82 eσ82 => ?_)
                                replace h := h σ82 eσ82
                                refine v_iinc (lv' := [(0, .ref (ad 41)), (3, .int (zI (y74 + 1)))]) cx 1 d_M_land_239 rfl (by decide) rfl rfl ?_
                                refine v_goto cx 220 d_M_land_242 (by decide) ?_
                                obtain ⟨hI2, hz84, hm2⟩ := h
                                exact ih220 _ _ (Nat.lt_of_lt_of_le hm2 (Nat.le_of_lt_succ hmm220)) hI2 hz84
                          exact L220 _ _ _ (Nat.lt_succ_self _) h0 ⟨by decide, by decide⟩
                        · replace h := h.2 c73
                          refine v_iconst cx d_M_land_216 ?_
                          exact rt _ _ _ _ _ _ (Nat.le_of_ble_eq_true rfl) (Nat.le_of_ble_eq_true rfl) d_M_land_217 ⟨by decide, by decide⟩ h
                      refine v_icmp_ne cx 205 d_M_land_198 (by decide) hl69 ⟨by decide, by decide⟩ (fun c85 => ?_) (fun c85 => ?_)
                      · replace h := h.1 c85
                        refine v_iconst cx d_M_land_205 ?_
                        have hJ2 := h
                        exact G206 _ hJ2 ⟨by decide, by decide⟩
                      · replace h := h.2 c85
                        refine v_iconst cx d_M_land_201 ?_
                        refine v_goto cx 206 d_M_land_202 (by decide) ?_
                        have hJ2 := h
                        exact G206 _ hJ2 ⟨by decide, by decide⟩
                    refine v_icmp_ne cx 192 d_M_land_134 (by decide) hl67 ⟨by decide, by decide⟩ (fun c86 => ?_) (fun c86 => ?_)
                    · replace h := h.1 c86
                      refine v_sb (lv' := [(0, .ref (ad 41))]) [0] rfl ?_
                      refine v_widen (k' := 16) (n' := 176) (zG1_le hg129) (zG11_le hg129) ?_
                      have hJ2 := h
                      exact G192 _ hJ2 
                    · replace h := h.2 c86
                      refine v_aload_n cx 0 d_M_land_137 rfl rfl ?_
                      refine v_callVi0 (st := []) cx (s_M_here  h) yk_M_here lk_M_224 zl_41 rfl rfl rfl (Nat.le_of_ble_eq_true rfl) ⟨Nat.le_of_ble_eq_true rfl, Nat.le_of_ble_eq_true rfl⟩ ⟨rfl, rfl⟩ ⟨(zG1_le hg129), (zG11_le hg129)⟩ d_M_land_138 (fun r88 σ87 hr88 h => ?_)
                      refine v_aload_n cx 0 d_M_land_141 rfl rfl ?_
                      refine gf_M_221 cx d_M_land_142 (fun hl89 => ?_)
                      refine v_icmp_ge cx 192 d_M_land_145 (by decide) hr88 hl89 (fun c90 => ?_) (fun c90 => ?_)
                      · replace h := h.1 c90
                        refine v_sb (lv' := [(0, .ref (ad 41))]) [0] rfl ?_
                        refine v_widen (k' := 16) (n' := 176) (zG1_le hg129) (zG11_le hg129) ?_
                        have hJ2 := h
                        exact G192 _ hJ2 
                      · replace h := h.2 c90
                        refine v_aload_n cx 0 d_M_land_148 rfl rfl ?_
                        refine v_callVv0 (st := []) cx (s_M_mustSign  h) yk_M_mustSign lk_M_243 zl_41 rfl rfl rfl (Nat.le_of_ble_eq_true rfl) ⟨Nat.le_of_ble_eq_true rfl, Nat.le_of_ble_eq_true rfl⟩ ⟨rfl, rfl⟩ ⟨(zG1_le hg129), (zG11_le hg129)⟩ d_M_land_149 (fun σ91 h => ?_)
                        refine v_aload_n cx 0 d_M_land_152 rfl rfl ?_
                        refine gf_M_34 cx d_M_land_153 (fun hl92 => ?_)
                        refine v_iconst cx d_M_land_156 ?_
                        obtain ⟨J174, hJ174, h⟩ := h
                        have G174 : ∀ (σ93 : zS), J174 σ93 → zV Ω Γ rm_M_land 4 Q (zG 1 y65) (zG 11 y65) zLy ad σ93 174 [(0, .ref (ad 41)), (3, .int (zI y65))] [] := by
                          intro σ93 hJ 
                          replace h := hJ174 σ93 hJ 
                          refine v_aload_n cx 0 d_M_land_174 rfl rfl ?_
                          refine gf_M_34 cx d_M_land_175 (fun hl94 => ?_)
                          refine v_iconst cx d_M_land_178 ?_
                          refine v_icmp_ne cx 186 d_M_land_179 (by decide) hl94 ⟨by decide, by decide⟩ (fun c95 => ?_) (fun c95 => ?_)
                          · replace h := h.1 c95
                            refine v_iinc (lv' := [(0, .ref (ad 41)), (3, .int (zI (y65 + 1)))]) cx 1 d_M_land_186 rfl (by decide) rfl rfl ?_
                            refine v_goto cx 129 d_M_land_189 (by decide) ?_
                            refine v_widen (k' := zG 1 (y65 + 1)) (n' := zG 11 (y65 + 1)) (zG1_um hg129) (zG11_um hg129) ?_
                            obtain ⟨hI2, hz97, hm2⟩ := h
                            exact ih129 _ _ (Nat.lt_of_lt_of_le hm2 (Nat.le_of_lt_succ hmm129)) hI2 hz97
                          · replace h := h.2 c95
                            refine v_aload_n cx 0 d_M_land_182 rfl rfl ?_
                            refine v_callVv (st := []) cx (s_M_moreLine  h) yk_M_moreLine lk_M_290 zl_41 rfl rfl rfl (Nat.le_of_ble_eq_true rfl) ⟨Nat.le_of_ble_eq_true rfl, Nat.le_of_ble_eq_true rfl⟩ ⟨(zG1_c hg129), (zG11_c hg129)⟩ d_M_land_183 (fun σ98 h => ?_)
                            refine v_widen (k' := (zG 1 y65) + 1) (n' := (zG 11 y65) + 11) (Nat.le_refl _) (Nat.le_refl _) ?_
                            refine v_iinc (lv' := [(0, .ref (ad 41)), (3, .int (zI (y65 + 1)))]) cx 1 d_M_land_186 rfl (by decide) rfl rfl ?_
                            refine v_goto cx 129 d_M_land_189 (by decide) ?_
                            refine v_widen (k' := zG 1 (y65 + 1)) (n' := zG 11 (y65 + 1)) (zG1_uc hg129) (zG11_uc hg129) ?_
                            obtain ⟨hI2, hz100, hm2⟩ := h
                            exact ih129 _ _ (Nat.lt_of_lt_of_le hm2 (Nat.le_of_lt_succ hmm129)) hI2 hz100
                        refine v_icmp_ne cx 174 d_M_land_157 (by decide) hl92 ⟨by decide, by decide⟩ (fun c101 => ?_) (fun c101 => ?_)
                        · replace h := h.1 c101
                          have hJ2 := h
                          exact G174 _ hJ2 
                        · replace h := h.2 c101
                          refine v_iload_n cx 1 d_M_land_160 rfl rfl ?_
                          refine v_bipush cx (by decide) d_M_land_161 ?_
                          refine v_icmp_ne cx 174 d_M_land_163 (by decide) hy65 ⟨by decide, by decide⟩ (fun c102 => ?_) (fun c102 => ?_)
                          · replace h := h.1 c102
                            have hJ2 := h
                            exact G174 _ hJ2 
                          · replace h := h.2 c102
                            refine v_aload_n cx 0 d_M_land_166 rfl rfl ?_
                            refine v_aload_n cx 0 d_M_land_167 rfl rfl ?_
                            refine v_callVi0 (st := [.ref (ad 41)]) cx (s_M_here  h) yk_M_here lk_M_224 zl_41 rfl rfl rfl (Nat.le_of_ble_eq_true rfl) ⟨Nat.le_of_ble_eq_true rfl, Nat.le_of_ble_eq_true rfl⟩ ⟨rfl, rfl⟩ ⟨(zG1_le hg129), (zG11_le hg129)⟩ d_M_land_168 (fun r104 σ103 hr104 h => ?_)
                            refine v_callVv0 (st := []) cx (s_M_wrong hr104 h) yk_M_wrong lk_M_240 zl_41 rfl rfl rfl (Nat.le_of_ble_eq_true rfl) ⟨Nat.le_of_ble_eq_true rfl, Nat.le_of_ble_eq_true rfl⟩ ⟨rfl, rfl⟩ ⟨(zG1_le hg129), (zG11_le hg129)⟩ d_M_land_171 (fun σ105 h => ?_)
                            have hJ2 := h
                            exact G174 _ hJ2 
                refine v_widen (k' := zG 1 0) (n' := zG 11 0) (Nat.zero_le _) (Nat.zero_le _) ?_
                exact L129 _ _ _ (Nat.lt_succ_self _) h0 ⟨by decide, by decide⟩
            · replace h := h.2 c12
              refine v_aload_n cx 0 d_M_land_58 rfl rfl ?_
              refine gf_M_38 cx d_M_land_59 ?_
              refine v_iconst cx d_M_land_62 ?_
              refine v_iload_n cx 1 d_M_land_63 rfl rfl ?_
              refine v_iadd cx d_M_land_64 ?_
              refine v_aload_n cx 0 d_M_land_65 rfl rfl ?_
              refine gf_M_19 cx d_M_land_66 ?_
              refine v_iload_n cx 1 d_M_land_69 rfl rfl ?_
              obtain ⟨hb106, h⟩ := h
              refine v_iald cx zl_45 (by decide) hb106.1 hb106.2 d_M_land_70 (fun hl107 => ?_)
              obtain ⟨hb108, h⟩ := h
              refine v_iast cx zl_50 (by decide) hb108.1 hb108.2 hl107 d_M_land_71 ?_
              refine v_ns (fun σ109 eσ109 => ?_)
              replace h := h σ109 eσ109
              refine v_iinc (lv' := [(0, .ref (ad 41)), (1, .int (zI (y10 + 1)))]) cx 1 d_M_land_72 rfl (by decide) rfl rfl ?_
              refine v_goto cx 52 d_M_land_75 (by decide) ?_
              obtain ⟨hI2, hz111, hm2⟩ := h
              exact ih52 _ _ (Nat.lt_of_lt_of_le hm2 (Nat.le_of_lt_succ hmm52)) hI2 hz111
        exact L52 _ _ _ (Nat.lt_succ_self _) h0 ⟨by decide, by decide⟩
      · replace h := h.2 c9
        refine v_aload_n cx 0 d_M_land_37 rfl rfl ?_
        refine gf_M_38 cx d_M_land_38 ?_
        refine v_iload_n cx 1 d_M_land_41 rfl rfl ?_
        refine v_iconst cx d_M_land_42 ?_
        obtain ⟨hb112, h⟩ := h
        refine v_iast cx zl_50 (by decide) hb112.1 hb112.2 ⟨by decide, by decide⟩ d_M_land_43 ?_
        refine v_ns (fun σ113 eσ113 => ?_)
        replace h := h σ113 eσ113
        refine v_iinc (lv' := [(0, .ref (ad 41)), (1, .int (zI (y7 + 1)))]) cx 1 d_M_land_44 rfl (by decide) rfl rfl ?_
        refine v_goto cx 30 d_M_land_47 (by decide) ?_
        obtain ⟨hI2, hz115, hm2⟩ := h
        exact ih30 _ _ (Nat.lt_of_lt_of_le hm2 (Nat.le_of_lt_succ hmm30)) hI2 hz115
  exact L30 _ _ _ (Nat.lt_succ_self _) h0 ⟨by decide, by decide⟩
