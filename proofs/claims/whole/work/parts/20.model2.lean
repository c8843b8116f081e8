def q_M_eases (p : Int) (h_ : Int) (kind : Int) (K : Int → zS → Prop) (σ : zS) : Prop :=
  ∃ (I6 : Int → Int → zS → Prop) (μ6 : Int → Int → zS → Nat), (I6 0 0 σ) ∧ ∀ (y1 y2 : Int) (σ3 : zS), I6 y1 y2 σ3 → zR y1 → zR y2 → 
  (8 ≤ y2 →
    (y1 = 0 ∨ y1 = 1) ∧ (K y1 σ3)) ∧ (y2 < 8 →
    q_M_canStep p y2 (fun r7 σ6 =>
      (r7 = 0 →
        I6 y1 (y2 + 1) σ6 ∧ zR (y2 + 1) ∧ μ6 y1 (y2 + 1) σ6 < μ6 y1 y2 σ3) ∧ (r7 ≠ 0 →
        q_M_canBend p h_ y2 (fun r12 σ11 =>
          (r12 ≠ 0 →
            q_M_beside p y2 (fun r15 σ14 =>
              ∀ x16 : Int, x16 = (8 * r15) + y2 → (0 ≤ x16 ∧ x16 < 648) ∧ (((σ14 51 x16) ≠ 1000000000 →
                  q_M_stepOf p y2 kind (fun r22 σ21 =>
                    q_M_bendOf h_ y2 kind (fun r24 σ23 =>
                      ∀ x25 : Int, x25 = ((σ14 51 x16) + r22) + r24 → zR x25 ∧ (zR ((σ23 52 x16) + 1) ∧ (zR ((8 * p) + h_) ∧ (q_M_isLess x25 ((σ23 52 x16) + 1) ((8 * p) + h_) (fun r31 σ30 =>
                              (r31 ≠ 0 →
                                (0 ≤ (8 * p) + h_ ∧ (8 * p) + h_ < 648) ∧ (∀ σ34 : zS, σ34 = zU σ30 51 ((8 * p) + h_) x25 → zR ((σ34 52 x16) + 1) ∧ (∀ σ37 : zS, σ37 = zU σ34 52 ((8 * p) + h_) ((σ34 52 x16) + 1) → I6 1 (y2 + 1) σ37 ∧ zR (y2 + 1) ∧ μ6 1 (y2 + 1) σ37 < μ6 y1 y2 σ3))) ∧ (r31 = 0 →
                                I6 y1 (y2 + 1) σ30 ∧ zR (y2 + 1) ∧ μ6 y1 (y2 + 1) σ30 < μ6 y1 y2 σ3)) σ23)))) σ21) σ14) ∧ ((σ14 51 x16) = 1000000000 →
                  I6 y1 (y2 + 1) σ14 ∧ zR (y2 + 1) ∧ μ6 y1 (y2 + 1) σ14 < μ6 y1 y2 σ3))) σ11) ∧ (r12 = 0 →
            I6 y1 (y2 + 1) σ11 ∧ zR (y2 + 1) ∧ μ6 y1 (y2 + 1) σ11 < μ6 y1 y2 σ3)) σ6)) σ3)
abbrev rm_M_eases : Room := { frames := 4, cells := 0, slots := 0, locals := 96 }
set_option maxRecDepth 20000 in
set_option maxHeartbeats 4000000 in
theorem s_M_eases {Ω : zO} {ad : Nat → Nat} {p : Int} {h_ : Int} {kind : Int} {K : Int → zS → Prop} {σ : zS} (hp : zR p) (hh_ : zR h_) (hkind : zR kind) (h : q_M_eases p h_ kind K σ) : zMz Ω y_M_eases (.code y_M_eases c_M_eases 8 (some .boolean)) rm_M_eases zLy ad [.ref (ad 41), .int (zI p), .int (zI h_), .int (zI kind)] σ K := by
  refine z_ofz (lv := [(0, .ref (ad 41)), (1, .int (zI p)), (2, .int (zI h_)), (3, .int (zI kind))]) (by decide) rfl (Nat.le_of_ble_eq_true rfl) ?_
  intro Γ Q cx rt
  unfold q_M_eases at h
  refine v_iconst cx d_M_eases_0 ?_
  refine v_istore (lv' := [(0, .ref (ad 41)), (1, .int (zI p)), (2, .int (zI h_)), (3, .int (zI kind)), (4, .int (zI 0))]) cx d_M_eases_1 (by decide) rfl rfl ?_
  refine v_iconst cx d_M_eases_3 ?_
  refine v_istore (lv' := [(0, .ref (ad 41)), (1, .int (zI p)), (2, .int (zI h_)), (3, .int (zI kind)), (4, .int (zI 0)), (5, .int (zI 0))]) cx d_M_eases_4 (by decide) rfl rfl ?_
  obtain ⟨I6, μ6, h0, h⟩ := h
  have L6 : ∀ (N6 : Nat) (y1 y2 : Int) (σ3 : zS), μ6 y1 y2 σ3 < N6 → I6 y1 y2 σ3 → zR y1 → zR y2 → zV Ω Γ rm_M_eases 8 Q 0 0 zLy ad σ3 6 [(0, .ref (ad 41)), (1, .int (zI p)), (2, .int (zI h_)), (3, .int (zI kind)), (4, .int (zI y1)), (5, .int (zI y2))] [] := by
    intro N6
    induction N6 with
    | zero => intro y1 y2 σ3 hm; exact absurd hm (Nat.not_lt_zero _)
    | succ N6 ih6 =>
      intro y1 y2 σ3 hmm6 hI hy1 hy2
      replace h := h y1 y2 σ3 hI hy1 hy2
      refine v_iload cx 5 d_M_eases_6 rfl ?_
      refine v_bipush cx (by decide) d_M_eases_8 ?_
      refine v_icmp_ge cx 163 d_M_eases_10 (by decide) hy2 ⟨by decide, by decide⟩ (fun c4 => ?_) (fun c4 => ?_)
      · replace h := h.1 c4
        refine v_iload cx 4 d_M_eases_163 rfl ?_
        obtain ⟨hz5, h⟩ := h
        exact rt _ _ _ _ _ _ (Nat.le_of_ble_eq_true rfl) (Nat.le_of_ble_eq_true rfl) d_M_eases_165 hz5 h
      · replace h := h.2 c4
        refine v_aload_n cx 0 d_M_eases_13 rfl rfl ?_
        refine v_iload_n cx 1 d_M_eases_14 rfl rfl ?_
        refine v_iload cx 5 d_M_eases_15 rfl ?_
        refine v_callVz0 (st := []) cx (s_M_canStep hp hy2 h) yk_M_canStep lk_M_149 zl_41 rfl rfl rfl (Nat.le_of_ble_eq_true rfl) ⟨Nat.le_of_ble_eq_true rfl, Nat.le_of_ble_eq_true rfl⟩ ⟨rfl, rfl⟩ ⟨(Nat.le_of_ble_eq_true rfl), (Nat.le_of_ble_eq_true rfl)⟩ d_M_eases_17 (fun r7 σ6 hr7 h => ?_)
        refine v_if_eq cx 157 d_M_eases_20 (by decide) (zR_b hr7) (fun c8 => ?_) (fun c8 => ?_)
        · replace h := h.1 c8
          refine v_iinc (lv' := [(0, .ref (ad 41)), (1, .int (zI p)), (2, .int (zI h_)), (3, .int (zI kind)), (4, .int (zI y1)), (5, .int (zI (y2 + 1)))]) cx 5 d_M_eases_157 rfl (by decide) rfl rfl ?_
          refine v_goto cx 6 d_M_eases_160 (by decide) ?_
          obtain ⟨hI2, hz10, hm2⟩ := h
          exact ih6 _ _ _ (Nat.lt_of_lt_of_le hm2 (Nat.le_of_lt_succ hmm6)) hI2 hy1 hz10
        · replace h := h.2 c8
          refine v_aload_n cx 0 d_M_eases_23 rfl rfl ?_
          refine v_iload_n cx 1 d_M_eases_24 rfl rfl ?_
          refine v_iload_n cx 2 d_M_eases_25 rfl rfl ?_
          refine v_iload cx 5 d_M_eases_26 rfl ?_
          refine v_callVz0 (st := []) cx (s_M_canBend hp hh_ hy2 h) yk_M_canBend lk_M_152 zl_41 rfl rfl rfl (Nat.le_of_ble_eq_true rfl) ⟨Nat.le_of_ble_eq_true rfl, Nat.le_of_ble_eq_true rfl⟩ ⟨rfl, rfl⟩ ⟨(Nat.le_of_ble_eq_true rfl), (Nat.le_of_ble_eq_true rfl)⟩ d_M_eases_28 (fun r12 σ11 hr12 h => ?_)
          refine v_if_ne cx 37 d_M_eases_31 (by decide) (zR_b hr12) (fun c13 => ?_) (fun c13 => ?_)
          · replace h := h.1 c13
            refine v_bipush cx (by decide) d_M_eases_37 ?_
            refine v_aload_n cx 0 d_M_eases_39 rfl rfl ?_
            refine v_iload_n cx 1 d_M_eases_40 rfl rfl ?_
            refine v_iload cx 5 d_M_eases_41 rfl ?_
            refine v_callVi0 (st := [.int (zI 8)]) cx (s_M_beside hp hy2 h) yk_M_beside lk_M_102 zl_41 rfl rfl rfl (Nat.le_of_ble_eq_true rfl) ⟨Nat.le_of_ble_eq_true rfl, Nat.le_of_ble_eq_true rfl⟩ ⟨rfl, rfl⟩ ⟨(Nat.le_of_ble_eq_true rfl), (Nat.le_of_ble_eq_true rfl)⟩ d_M_eases_43 (fun r15 σ14 hr15 h => ?_)
            refine v_imul cx d_M_eases_46 ?_
            refine v_iload cx 5 d_M_eases_47 rfl ?_
            refine v_iadd cx d_M_eases_49 ?_
            refine v_nm (fun x16 ex16 => ?_)
            replace h := h x16 ex16
            refine v_istore (lv' := [(0, .ref (ad 41)), (1, .int (zI p)), (2, .int (zI h_)), (3, .int (zI kind)), (4, .int (zI y1)), (5, .int (zI y2)), (6, .int (zI x16))]) cx d_M_eases_50 (by decide) rfl rfl ?_
            refine v_aload_n cx 0 d_M_eases_52 rfl rfl ?_
            refine gf_M_41 cx d_M_eases_53 ?_
            refine v_iload cx 6 d_M_eases_56 rfl ?_
            obtain ⟨hb17, h⟩ := h
            refine v_iald cx zl_51 (by decide) hb17.1 hb17.2 d_M_eases_58 (fun hl18 => ?_)
            refine v_ldc cx ct_M_155 d_M_eases_59 ?_
            refine v_icmp_ne cx 67 d_M_eases_61 (by decide) hl18 ⟨by decide, by decide⟩ (fun c19 => ?_) (fun c19 => ?_)
            · replace h := h.1 c19
              refine v_aload_n cx 0 d_M_eases_67 rfl rfl ?_
              refine gf_M_41 cx d_M_eases_68 ?_
              refine v_iload cx 6 d_M_eases_71 rfl ?_
              refine v_iald cx zl_51 (by decide) hb17.1 hb17.2 d_M_eases_73 (fun hl20 => ?_)
              refine v_aload_n cx 0 d_M_eases_74 rfl rfl ?_
              refine v_iload_n cx 1 d_M_eases_75 rfl rfl ?_
              refine v_iload cx 5 d_M_eases_76 rfl ?_
              refine v_iload_n cx 3 d_M_eases_78 rfl rfl ?_
              refine v_callVi0 (st := [.int (zI (σ14 51 x16))]) cx (s_M_stepOf hp hy2 hkind h) yk_M_stepOf lk_M_139 zl_41 rfl rfl rfl (Nat.le_of_ble_eq_true rfl) ⟨Nat.le_of_ble_eq_true rfl, Nat.le_of_ble_eq_true rfl⟩ ⟨rfl, rfl⟩ ⟨(Nat.le_of_ble_eq_true rfl), (Nat.le_of_ble_eq_true rfl)⟩ d_M_eases_79 (fun r22 σ21 hr22 h => ?_)
              refine v_iadd cx d_M_eases_82 ?_
              refine v_aload_n cx 0 d_M_eases_83 rfl rfl ?_
              refine v_iload_n cx 2 d_M_eases_84 rfl rfl ?_
              refine v_iload cx 5 d_M_eases_85 rfl ?_
              refine v_iload_n cx 3 d_M_eases_87 rfl rfl ?_
              refine v_callVi0 (st := [.int (zI ((σ14 51 x16) + r22))]) cx (s_M_bendOf hh_ hy2 hkind h) yk_M_bendOf lk_M_156 zl_41 rfl rfl rfl (Nat.le_of_ble_eq_true rfl) ⟨Nat.le_of_ble_eq_true rfl, Nat.le_of_ble_eq_true rfl⟩ ⟨rfl, rfl⟩ ⟨(Nat.le_of_ble_eq_true rfl), (Nat.le_of_ble_eq_true rfl)⟩ d_M_eases_88 (fun r24 σ23 hr24 h => ?_)
              refine v_iadd cx d_M_eases_91 ?_
              refine v_nm (fun x25 ex25 => ?_)
              replace h := h x25 ex25
              refine v_istore (lv' := [(0, .ref (ad 41)), (1, .int (zI p)), (2, .int (zI h_)), (3, .int (zI kind)), (4, .int (zI y1)), (5, .int (zI y2)), (6, .int (zI x16)), (7, .int (zI x25))]) cx d_M_eases_92 (by decide) rfl rfl ?_
              refine v_aload_n cx 0 d_M_eases_94 rfl rfl ?_
              refine v_iload cx 7 d_M_eases_95 rfl ?_
              refine v_aload_n cx 0 d_M_eases_97 rfl rfl ?_
              refine gf_M_44 cx d_M_eases_98 ?_
              refine v_iload cx 6 d_M_eases_101 rfl ?_
              refine v_iald cx zl_52 (by decide) hb17.1 hb17.2 d_M_eases_103 (fun hl26 => ?_)
              refine v_iconst cx d_M_eases_104 ?_
              refine v_iadd cx d_M_eases_105 ?_
              refine v_bipush cx (by decide) d_M_eases_106 ?_
              refine v_iload_n cx 1 d_M_eases_108 rfl rfl ?_
              refine v_imul cx d_M_eases_109 ?_
              refine v_iload_n cx 2 d_M_eases_110 rfl rfl ?_
              refine v_iadd cx d_M_eases_111 ?_
              obtain ⟨hr27, h⟩ := h
              obtain ⟨hr28, h⟩ := h
              obtain ⟨hr29, h⟩ := h
              refine v_callVz0 (st := []) cx (s_M_isLess hr27 hr28 hr29 h) yk_M_isLess lk_M_159 zl_41 rfl rfl rfl (Nat.le_of_ble_eq_true rfl) ⟨Nat.le_of_ble_eq_true rfl, Nat.le_of_ble_eq_true rfl⟩ ⟨rfl, rfl⟩ ⟨(Nat.le_of_ble_eq_true rfl), (Nat.le_of_ble_eq_true rfl)⟩ d_M_eases_112 (fun r31 σ30 hr31 h => ?_)
              refine v_if_ne cx 121 d_M_eases_115 (by decide) (zR_b hr31) (fun c32 => ?_) (fun c32 => ?_)
              · replace h := h.1 c32
                refine v_aload_n cx 0 d_M_eases_121 rfl rfl ?_
                refine gf_M_41 cx d_M_eases_122 ?_
                refine v_bipush cx (by decide) d_M_eases_125 ?_
                refine v_iload_n cx 1 d_M_eases_127 rfl rfl ?_
                refine v_imul cx d_M_eases_128 ?_
                refine v_iload_n cx 2 d_M_eases_129 rfl rfl ?_
                refine v_iadd cx d_M_eases_130 ?_
                refine v_iload cx 7 d_M_eases_131 rfl ?_
                obtain ⟨hb33, h⟩ := h
                refine v_iast cx zl_51 (by decide) hb33.1 hb33.2 hr27 d_M_eases_133 ?_
                refine v_ns (fun σ34 eσ34 => ?_)
                replace h := h σ34 eσ34
                refine v_aload_n cx 0 d_M_eases_134 rfl rfl ?_
                refine gf_M_44 cx d_M_eases_135 ?_
                refine v_bipush cx (by decide) d_M_eases_138 ?_
                refine v_iload_n cx 1 d_M_eases_140 rfl rfl ?_
                refine v_imul cx d_M_eases_141 ?_
                refine v_iload_n cx 2 d_M_eases_142 rfl rfl ?_
                refine v_iadd cx d_M_eases_143 ?_
                refine v_aload_n cx 0 d_M_eases_144 rfl rfl ?_
                refine gf_M_44 cx d_M_eases_145 ?_
                refine v_iload cx 6 d_M_eases_148 rfl ?_
                refine v_iald cx zl_52 (by decide) hb17.1 hb17.2 d_M_eases_150 (fun hl35 => ?_)
                refine v_iconst cx d_M_eases_151 ?_
                refine v_iadd cx d_M_eases_152 ?_
                obtain ⟨hr36, h⟩ := h
                refine v_iast cx zl_52 (by decide) hb33.1 hb33.2 hr36 d_M_eases_153 ?_
                refine v_ns (fun σ37 eσ37 => ?_)
                replace h := h σ37 eσ37
                refine v_iconst cx d_M_eases_154 ?_
                refine v_istore (lv' := [(0, .ref (ad 41)), (1, .int (zI p)), (2, .int (zI h_)), (3, .int (zI kind)), (4, .int (zI 1)), (5, .int (zI y2)), (6, .int (zI x16)), (7, .int (zI x25))]) cx d_M_eases_155 (by decide) rfl rfl ?_
                refine v_iinc (lv' := [(0, .ref (ad 41)), (1, .int (zI p)), (2, .int (zI h_)), (3, .int (zI kind)), (4, .int (zI 1)), (5, .int (zI (y2 + 1))), (6, .int (zI x16)), (7, .int (zI x25))]) cx 5 d_M_eases_157 rfl (by decide) rfl rfl ?_
                refine v_goto cx 6 d_M_eases_160 (by decide) ?_
                refine v_sb (lv' := [(0, .ref (ad 41)), (1, .int (zI p)), (2, .int (zI h_)), (3, .int (zI kind)), (4, .int (zI 1)), (5, .int (zI (y2 + 1)))]) [0, 1, 2, 3, 4, 5] rfl ?_
                obtain ⟨hI2, hz39, hm2⟩ := h
                exact ih6 _ _ _ (Nat.lt_of_lt_of_le hm2 (Nat.le_of_lt_succ hmm6)) hI2 ⟨by decide, by decide⟩ hz39
              · replace h := h.2 c32
                refine v_goto cx 157 d_M_eases_118 (by decide) ?_
                refine v_iinc (lv' := [(0, .ref (ad 41)), (1, .int (zI p)), (2, .int (zI h_)), (3, .int (zI kind)), (4, .int (zI y1)), (5, .int (zI (y2 + 1))), (6, .int (zI x16)), (7, .int (zI x25))]) cx 5 d_M_eases_157 rfl (by decide) rfl rfl ?_
                refine v_goto cx 6 d_M_eases_160 (by decide) ?_
                refine v_sb (lv' := [(0, .ref (ad 41)), (1, .int (zI p)), (2, .int (zI h_)), (3, .int (zI kind)), (4, .int (zI y1)), (5, .int (zI (y2 + 1)))]) [0, 1, 2, 3, 4, 5] rfl ?_
                obtain ⟨hI2, hz41, hm2⟩ := h
                exact ih6 _ _ _ (Nat.lt_of_lt_of_le hm2 (Nat.le_of_lt_succ hmm6)) hI2 hy1 hz41
            · replace h := h.2 c19
              refine v_goto cx 157 d_M_eases_64 (by decide) ?_
              refine v_iinc (lv' := [(0, .ref (ad 41)), (1, .int (zI p)), (2, .int (zI h_)), (3, .int (zI kind)), (4, .int (zI y1)), (5, .int (zI (y2 + 1))), (6, .int (zI x16))]) cx 5 d_M_eases_157 rfl (by decide) rfl rfl ?_
              refine v_goto cx 6 d_M_eases_160 (by decide) ?_
              refine v_sb (lv' := [(0, .ref (ad 41)), (1, .int (zI p)), (2, .int (zI h_)), (3, .int (zI kind)), (4, .int (zI y1)), (5, .int (zI (y2 + 1)))]) [0, 1, 2, 3, 4, 5] rfl ?_
              obtain ⟨hI2, hz43, hm2⟩ := h
              exact ih6 _ _ _ (Nat.lt_of_lt_of_le hm2 (Nat.le_of_lt_succ hmm6)) hI2 hy1 hz43
          · replace h := h.2 c13
            refine v_goto cx 157 d_M_eases_34 (by decide) ?_
            refine v_iinc (lv' := [(0, .ref (ad 41)), (1, .int (zI p)), (2, .int (zI h_)), (3, .int (zI kind)), (4, .int (zI y1)), (5, .int (zI (y2 + 1)))]) cx 5 d_M_eases_157 rfl (by decide) rfl rfl ?_
            refine v_goto cx 6 d_M_eases_160 (by decide) ?_
            obtain ⟨hI2, hz45, hm2⟩ := h
            exact ih6 _ _ _ (Nat.lt_of_lt_of_le hm2 (Nat.le_of_lt_succ hmm6)) hI2 hy1 hz45
  exact L6 _ _ _ _ (Nat.lt_succ_self _) h0 ⟨by decide, by decide⟩ ⟨by decide, by decide⟩
def q_M_runOf (p : Int) (K : Int → zS → Prop) (σ : zS) : Prop :=
  ∃ (I4 : Int → Int → zS → Prop) (μ4 : Int → Int → zS → Nat), (I4 (-1) 0 σ) ∧ ∀ (y1 y2 : Int) (σ3 : zS), I4 y1 y2 σ3 → zR y1 → zR y2 → 
  (8 ≤ y2 →
    K y1 σ3) ∧ (y2 < 8 →
    q_M_beside p y2 (fun r6 σ5 =>
      (r6 = (-1) →
        I4 y1 (y2 + 1) σ5 ∧ zR (y2 + 1) ∧ μ4 y1 (y2 + 1) σ5 < μ4 y1 y2 σ3) ∧ (r6 ≠ (-1) →
        (0 ≤ 13 + r6 ∧ 13 + r6 < 499) ∧ ((0 ≤ 13 + p ∧ 13 + p < 499) ∧ (((σ5 42 (13 + r6)) < (σ5 42 (13 + p)) →
              (y1 = (-1) →
                I4 r6 (y2 + 1) σ5 ∧ zR (y2 + 1) ∧ μ4 r6 (y2 + 1) σ5 < μ4 y1 y2 σ3) ∧ (y1 ≠ (-1) →
                (0 ≤ 13 + y1 ∧ 13 + y1 < 499) ∧ (((σ5 42 (13 + y1)) ≤ (σ5 42 (13 + r6)) →
                    I4 y1 (y2 + 1) σ5 ∧ zR (y2 + 1) ∧ μ4 y1 (y2 + 1) σ5 < μ4 y1 y2 σ3) ∧ ((σ5 42 (13 + r6)) < (σ5 42 (13 + y1)) →
                    I4 r6 (y2 + 1) σ5 ∧ zR (y2 + 1) ∧ μ4 r6 (y2 + 1) σ5 < μ4 y1 y2 σ3)))) ∧ ((σ5 42 (13 + p)) ≤ (σ5 42 (13 + r6)) →
              I4 y1 (y2 + 1) σ5 ∧ zR (y2 + 1) ∧ μ4 y1 (y2 + 1) σ5 < μ4 y1 y2 σ3))))) σ3)
abbrev rm_M_runOf : Room := { frames := 2, cells := 0, slots := 0, locals := 46 }
set_option maxRecDepth 20000 in
set_option maxHeartbeats 4000000 in
theorem s_M_runOf {Ω : zO} {ad : Nat → Nat} {p : Int} {K : Int → zS → Prop} {σ : zS} (hp : zR p) (h : q_M_runOf p K σ) : zMi Ω y_M_runOf (.code y_M_runOf c_M_runOf 5 (some .int)) rm_M_runOf zLy ad [.ref (ad 41), .int (zI p)] σ K := by
  refine z_ofi (lv := [(0, .ref (ad 41)), (1, .int (zI p))]) (by decide) rfl (Nat.le_of_ble_eq_true rfl) ?_
  intro Γ Q cx rt
  unfold q_M_runOf at h
  refine v_iconst cx d_M_runOf_0 ?_
  refine v_istore_n (lv' := [(0, .ref (ad 41)), (1, .int (zI p)), (2, .int (zI (-1)))]) cx d_M_runOf_1 rfl (by decide) rfl rfl ?_
  refine v_iconst cx d_M_runOf_2 ?_
  refine v_istore_n (lv' := [(0, .ref (ad 41)), (1, .int (zI p)), (2, .int (zI (-1))), (3, .int (zI 0))]) cx d_M_runOf_3 rfl (by decide) rfl rfl ?_
  obtain ⟨I4, μ4, h0, h⟩ := h
  have L4 : ∀ (N4 : Nat) (y1 y2 : Int) (σ3 : zS), μ4 y1 y2 σ3 < N4 → I4 y1 y2 σ3 → zR y1 → zR y2 → zV Ω Γ rm_M_runOf 5 Q 0 0 zLy ad σ3 4 [(0, .ref (ad 41)), (1, .int (zI p)), (2, .int (zI y1)), (3, .int (zI y2))] [] := by
    intro N4
    induction N4 with
    | zero => intro y1 y2 σ3 hm; exact absurd hm (Nat.not_lt_zero _)
    | succ N4 ih4 =>
      intro y1 y2 σ3 hmm4 hI hy1 hy2
      replace h := h y1 y2 σ3 hI hy1 hy2
      refine v_iload_n cx 3 d_M_runOf_4 rfl rfl ?_
      refine v_bipush cx (by decide) d_M_runOf_5 ?_
      refine v_icmp_ge cx 85 d_M_runOf_7 (by decide) hy2 ⟨by decide, by decide⟩ (fun c4 => ?_) (fun c4 => ?_)
      · replace h := h.1 c4
        refine v_iload_n cx 2 d_M_runOf_85 rfl rfl ?_
        exact rt _ _ _ _ _ _ (Nat.le_of_ble_eq_true rfl) (Nat.le_of_ble_eq_true rfl) d_M_runOf_86 hy1 h
      · replace h := h.2 c4
        refine v_aload_n cx 0 d_M_runOf_10 rfl rfl ?_
        refine v_iload_n cx 1 d_M_runOf_11 rfl rfl ?_
        refine v_iload_n cx 3 d_M_runOf_12 rfl rfl ?_
        refine v_callVi0 (st := []) cx (s_M_beside hp hy2 h) yk_M_beside lk_M_102 zl_41 rfl rfl rfl (Nat.le_of_ble_eq_true rfl) ⟨Nat.le_of_ble_eq_true rfl, Nat.le_of_ble_eq_true rfl⟩ ⟨rfl, rfl⟩ ⟨(Nat.le_of_ble_eq_true rfl), (Nat.le_of_ble_eq_true rfl)⟩ d_M_runOf_13 (fun r6 σ5 hr6 h => ?_)
        refine v_istore (lv' := [(0, .ref (ad 41)), (1, .int (zI p)), (2, .int (zI y1)), (3, .int (zI y2)), (4, .int (zI r6))]) cx d_M_runOf_16 (by decide) rfl rfl ?_
        refine v_iload cx 4 d_M_runOf_18 rfl ?_
        refine v_iconst cx d_M_runOf_20 ?_
        refine v_icmp_eq cx 79 d_M_runOf_21 (by decide) hr6 ⟨by decide, by decide⟩ (fun c7 => ?_) (fun c7 => ?_)
        · replace h := h.1 c7
          refine v_iinc (lv' := [(0, .ref (ad 41)), (1, .int (zI p)), (2, .int (zI y1)), (3, .int (zI (y2 + 1))), (4, .int (zI r6))]) cx 3 d_M_runOf_79 rfl (by decide) rfl rfl ?_
          refine v_goto cx 4 d_M_runOf_82 (by decide) ?_
          refine v_sb (lv' := [(0, .ref (ad 41)), (1, .int (zI p)), (2, .int (zI y1)), (3, .int (zI (y2 + 1)))]) [0, 1, 2, 3] rfl ?_
          obtain ⟨hI2, hz9, hm2⟩ := h
          exact ih4 _ _ _ (Nat.lt_of_lt_of_le hm2 (Nat.le_of_lt_succ hmm4)) hI2 hy1 hz9
        · replace h := h.2 c7
          refine v_aload_n cx 0 d_M_runOf_24 rfl rfl ?_
          refine gf_M_7 cx d_M_runOf_25 ?_
          refine v_bipush cx (by decide) d_M_runOf_28 ?_
          refine v_iload cx 4 d_M_runOf_30 rfl ?_
          refine v_iadd cx d_M_runOf_32 ?_
          obtain ⟨hb10, h⟩ := h
          refine v_iald cx zl_42 (by decide) hb10.1 hb10.2 d_M_runOf_33 (fun hl11 => ?_)
          refine v_aload_n cx 0 d_M_runOf_34 rfl rfl ?_
          refine gf_M_7 cx d_M_runOf_35 ?_
          refine v_bipush cx (by decide) d_M_runOf_38 ?_
          refine v_iload_n cx 1 d_M_runOf_40 rfl rfl ?_
          refine v_iadd cx d_M_runOf_41 ?_
          obtain ⟨hb12, h⟩ := h
          refine v_iald cx zl_42 (by decide) hb12.1 hb12.2 d_M_runOf_42 (fun hl13 => ?_)
          refine v_icmp_lt cx 49 d_M_runOf_43 (by decide) hl11 hl13 (fun c14 => ?_) (fun c14 => ?_)
          · replace h := h.1 c14
            refine v_iload_n cx 2 d_M_runOf_49 rfl rfl ?_
            refine v_iconst cx d_M_runOf_50 ?_
            refine v_icmp_eq cx 76 d_M_runOf_51 (by decide) hy1 ⟨by decide, by decide⟩ (fun c15 => ?_) (fun c15 => ?_)
            · replace h := h.1 c15
              refine v_iload cx 4 d_M_runOf_76 rfl ?_
              refine v_istore_n (lv' := [(0, .ref (ad 41)), (1, .int (zI p)), (2, .int (zI r6)), (3, .int (zI y2)), (4, .int (zI r6))]) cx d_M_runOf_78 rfl (by decide) rfl rfl ?_
              refine v_iinc (lv' := [(0, .ref (ad 41)), (1, .int (zI p)), (2, .int (zI r6)), (3, .int (zI (y2 + 1))), (4, .int (zI r6))]) cx 3 d_M_runOf_79 rfl (by decide) rfl rfl ?_
              refine v_goto cx 4 d_M_runOf_82 (by decide) ?_
              refine v_sb (lv' := [(0, .ref (ad 41)), (1, .int (zI p)), (2, .int (zI r6)), (3, .int (zI (y2 + 1)))]) [0, 1, 2, 3] rfl ?_
              obtain ⟨hI2, hz17, hm2⟩ := h
              exact ih4 _ _ _ (Nat.lt_of_lt_of_le hm2 (Nat.le_of_lt_succ hmm4)) hI2 hr6 hz17
            · replace h := h.2 c15
              refine v_aload_n cx 0 d_M_runOf_54 rfl rfl ?_
              refine gf_M_7 cx d_M_runOf_55 ?_
              refine v_bipush cx (by decide) d_M_runOf_58 ?_
              refine v_iload cx 4 d_M_runOf_60 rfl ?_
              refine v_iadd cx d_M_runOf_62 ?_
              refine v_iald cx zl_42 (by decide) hb10.1 hb10.2 d_M_runOf_63 (fun hl18 => ?_)
              refine v_aload_n cx 0 d_M_runOf_64 rfl rfl ?_
              refine gf_M_7 cx d_M_runOf_65 ?_
              refine v_bipush cx (by decide) d_M_runOf_68 ?_
              refine v_iload_n cx 2 d_M_runOf_70 rfl rfl ?_
              refine v_iadd cx d_M_runOf_71 ?_
              obtain ⟨hb19, h⟩ := h
              refine v_iald cx zl_42 (by decide) hb19.1 hb19.2 d_M_runOf_72 (fun hl20 => ?_)
              refine v_icmp_ge cx 79 d_M_runOf_73 (by decide) hl18 hl20 (fun c21 => ?_) (fun c21 => ?_)
              · replace h := h.1 c21
                refine v_iinc (lv' := [(0, .ref (ad 41)), (1, .int (zI p)), (2, .int (zI y1)), (3, .int (zI (y2 + 1))), (4, .int (zI r6))]) cx 3 d_M_runOf_79 rfl (by decide) rfl rfl ?_
                refine v_goto cx 4 d_M_runOf_82 (by decide) ?_
                refine v_sb (lv' := [(0, .ref (ad 41)), (1, .int (zI p)), (2, .int (zI y1)), (3, .int (zI (y2 + 1)))]) [0, 1, 2, 3] rfl ?_
                obtain ⟨hI2, hz23, hm2⟩ := h
                exact ih4 _ _ _ (Nat.lt_of_lt_of_le hm2 (Nat.le_of_lt_succ hmm4)) hI2 hy1 hz23
              · replace h := h.2 c21
                refine v_iload cx 4 d_M_runOf_76 rfl ?_
                refine v_istore_n (lv' := [(0, .ref (ad 41)), (1, .int (zI p)), (2, .int (zI r6)), (3, .int (zI y2)), (4, .int (zI r6))]) cx d_M_runOf_78 rfl (by decide) rfl rfl ?_
                refine v_iinc (lv' := [(0, .ref (ad 41)), (1, .int (zI p)), (2, .int (zI r6)), (3, .int (zI (y2 + 1))), (4, .int (zI r6))]) cx 3 d_M_runOf_79 rfl (by decide) rfl rfl ?_
                refine v_goto cx 4 d_M_runOf_82 (by decide) ?_
                refine v_sb (lv' := [(0, .ref (ad 41)), (1, .int (zI p)), (2, .int (zI r6)), (3, .int (zI (y2 + 1)))]) [0, 1, 2, 3] rfl ?_
                obtain ⟨hI2, hz25, hm2⟩ := h
                exact ih4 _ _ _ (Nat.lt_of_lt_of_le hm2 (Nat.le_of_lt_succ hmm4)) hI2 hr6 hz25
          · replace h := h.2 c14
            refine v_goto cx 79 d_M_runOf_46 (by decide) ?_
            refine v_iinc (lv' := [(0, .ref (ad 41)), (1, .int (zI p)), (2, .int (zI y1)), (3, .int (zI (y2 + 1))), (4, .int (zI r6))]) cx 3 d_M_runOf_79 rfl (by decide) rfl rfl ?_
            refine v_goto cx 4 d_M_runOf_82 (by decide) ?_
            refine v_sb (lv' := [(0, .ref (ad 41)), (1, .int (zI p)), (2, .int (zI y1)), (3, .int (zI (y2 + 1)))]) [0, 1, 2, 3] rfl ?_
            obtain ⟨hI2, hz27, hm2⟩ := h
            exact ih4 _ _ _ (Nat.lt_of_lt_of_le hm2 (Nat.le_of_lt_succ hmm4)) hI2 hy1 hz27
  exact L4 _ _ _ _ (Nat.lt_succ_self _) h0 ⟨by decide, by decide⟩ ⟨by decide, by decide⟩
def q_M_laysCatches (K : zS → Prop) (σ : zS) : Prop :=
  ∃ (I2 : Int → zS → Prop) (μ2 : Int → zS → Nat), (I2 0 σ) ∧ ∀ (y1 : Int) (σ2 : zS), I2 y1 σ2 → zR y1 → 
  q_M_places (fun r4 σ3 =>
    (r4 ≤ y1 →
      ∃ (I25 : Int → zS → Prop) (μ25 : Int → zS → Nat), (I25 0 σ3) ∧ ∀ (y6 : Int) (σ7 : zS), I25 y6 σ7 → zR y6 → 
      q_M_places (fun r9 σ8 =>
        (r9 ≤ y6 →
          K σ8) ∧ (y6 < r9 →
          ∃ (I35 : Int → zS → Prop) (μ35 : Int → zS → Nat), (I35 y6 σ8) ∧ ∀ (y11 : Int) (σ12 : zS), I35 y11 σ12 → zR y11 → 
          (y11 = (-1) →
            I25 (y6 + 1) σ12 ∧ zR (y6 + 1) ∧ μ25 (y6 + 1) σ12 < μ25 y6 σ7) ∧ (y11 ≠ (-1) →
            (0 ≤ y11 ∧ y11 < 81) ∧ (zR ((σ12 62 y11) + 1) ∧ (∀ σ19 : zS, σ19 = zU σ12 62 y11 ((σ12 62 y11) + 1) → q_M_runOf y11 (fun r21 σ20 =>
                  I35 r21 σ20 ∧ μ35 r21 σ20 < μ35 y11 σ12) σ19))))) σ7) ∧ (y1 < r4 →
      (0 ≤ y1 ∧ y1 < 81) ∧ (∀ σ23 : zS, σ23 = zU σ3 62 y1 0 → I2 (y1 + 1) σ23 ∧ zR (y1 + 1) ∧ μ2 (y1 + 1) σ23 < μ2 y1 σ2))) σ2
abbrev rm_M_laysCatches : Room := { frames := 3, cells := 0, slots := 0, locals := 70 }
set_option maxRecDepth 20000 in
set_option maxHeartbeats 4000000 in
theorem s_M_laysCatches {Ω : zO} {ad : Nat → Nat} {K : zS → Prop} {σ : zS}  (h : q_M_laysCatches K σ) : zMv Ω y_M_laysCatches (.code y_M_laysCatches c_M_laysCatches 3 none) rm_M_laysCatches zLy ad [.ref (ad 41)] σ K := by
  refine z_ofv (lv := [(0, .ref (ad 41))]) (by decide) rfl (Nat.le_of_ble_eq_true rfl) ?_
  intro Γ Q cx rt
  unfold q_M_laysCatches at h
  refine v_iconst cx d_M_laysCatches_0 ?_
  refine v_istore_n (lv' := [(0, .ref (ad 41)), (1, .int (zI 0))]) cx d_M_laysCatches_1 rfl (by decide) rfl rfl ?_
  obtain ⟨I2, μ2, h0, h⟩ := h
  have L2 : ∀ (N2 : Nat) (y1 : Int) (σ2 : zS), μ2 y1 σ2 < N2 → I2 y1 σ2 → zR y1 → zV Ω Γ rm_M_laysCatches 3 Q 0 0 zLy ad σ2 2 [(0, .ref (ad 41)), (1, .int (zI y1))] [] := by
    intro N2
    induction N2 with
    | zero => intro y1 σ2 hm; exact absurd hm (Nat.not_lt_zero _)
    | succ N2 ih2 =>
      intro y1 σ2 hmm2 hI hy1
      replace h := h y1 σ2 hI hy1
      refine v_iload_n cx 1 d_M_laysCatches_2 rfl rfl ?_
      refine v_aload_n cx 0 d_M_laysCatches_3 rfl rfl ?_
      refine v_callVi0 (st := [.int (zI y1)]) cx (s_M_places  h) yk_M_places lk_M_90 zl_41 rfl rfl rfl (Nat.le_of_ble_eq_true rfl) ⟨Nat.le_of_ble_eq_true rfl, Nat.le_of_ble_eq_true rfl⟩ ⟨rfl, rfl⟩ ⟨(Nat.le_of_ble_eq_true rfl), (Nat.le_of_ble_eq_true rfl)⟩ d_M_laysCatches_4 (fun r4 σ3 hr4 h => ?_)
      refine v_icmp_ge cx 23 d_M_laysCatches_7 (by decide) hy1 hr4 (fun c5 => ?_) (fun c5 => ?_)
      · replace h := h.1 c5
        refine v_iconst cx d_M_laysCatches_23 ?_
        refine v_istore_n (lv' := [(0, .ref (ad 41)), (1, .int (zI 0))]) cx d_M_laysCatches_24 rfl (by decide) rfl rfl ?_
        obtain ⟨I25, μ25, h0, h⟩ := h
        have L25 : ∀ (N25 : Nat) (y6 : Int) (σ7 : zS), μ25 y6 σ7 < N25 → I25 y6 σ7 → zR y6 → zV Ω Γ rm_M_laysCatches 3 Q 0 0 zLy ad σ7 25 [(0, .ref (ad 41)), (1, .int (zI y6))] [] := by
          intro N25
          induction N25 with
          | zero => intro y6 σ7 hm; exact absurd hm (Nat.not_lt_zero _)
          | succ N25 ih25 =>
            intro y6 σ7 hmm25 hI hy6
            replace h := h y6 σ7 hI hy6
            refine v_iload_n cx 1 d_M_laysCatches_25 rfl rfl ?_
            refine v_aload_n cx 0 d_M_laysCatches_26 rfl rfl ?_
            refine v_callVi0 (st := [.int (zI y6)]) cx (s_M_places  h) yk_M_places lk_M_90 zl_41 rfl rfl rfl (Nat.le_of_ble_eq_true rfl) ⟨Nat.le_of_ble_eq_true rfl, Nat.le_of_ble_eq_true rfl⟩ ⟨rfl, rfl⟩ ⟨(Nat.le_of_ble_eq_true rfl), (Nat.le_of_ble_eq_true rfl)⟩ d_M_laysCatches_27 (fun r9 σ8 hr9 h => ?_)
            refine v_icmp_ge cx 65 d_M_laysCatches_30 (by decide) hy6 hr9 (fun c10 => ?_) (fun c10 => ?_)
            · replace h := h.1 c10
              exact rt _ _ _ _ _ (Nat.le_of_ble_eq_true rfl) (Nat.le_of_ble_eq_true rfl) d_M_laysCatches_65 h
            · replace h := h.2 c10
              refine v_iload_n cx 1 d_M_laysCatches_33 rfl rfl ?_
              refine v_istore_n (lv' := [(0, .ref (ad 41)), (1, .int (zI y6)), (2, .int (zI y6))]) cx d_M_laysCatches_34 rfl (by decide) rfl rfl ?_
              obtain ⟨I35, μ35, h0, h⟩ := h
              have L35 : ∀ (N35 : Nat) (y11 : Int) (σ12 : zS), μ35 y11 σ12 < N35 → I35 y11 σ12 → zR y11 → zV Ω Γ rm_M_laysCatches 3 Q 0 0 zLy ad σ12 35 [(0, .ref (ad 41)), (1, .int (zI y6)), (2, .int (zI y11))] [] := by
                intro N35
                induction N35 with
                | zero => intro y11 σ12 hm; exact absurd hm (Nat.not_lt_zero _)
                | succ N35 ih35 =>
                  intro y11 σ12 hmm35 hI hy11
                  replace h := h y11 σ12 hI hy11
                  refine v_iload_n cx 2 d_M_laysCatches_35 rfl rfl ?_
                  refine v_iconst cx d_M_laysCatches_36 ?_
                  refine v_icmp_eq cx 59 d_M_laysCatches_37 (by decide) hy11 ⟨by decide, by decide⟩ (fun c13 => ?_) (fun c13 => ?_)
                  · replace h := h.1 c13
                    refine v_iinc (lv' := [(0, .ref (ad 41)), (1, .int (zI (y6 + 1))), (2, .int (zI y11))]) cx 1 d_M_laysCatches_59 rfl (by decide) rfl rfl ?_
                    refine v_goto cx 25 d_M_laysCatches_62 (by decide) ?_
                    refine v_sb (lv' := [(0, .ref (ad 41)), (1, .int (zI (y6 + 1)))]) [0, 1] rfl ?_
                    obtain ⟨hI2, hz15, hm2⟩ := h
                    exact ih25 _ _ (Nat.lt_of_lt_of_le hm2 (Nat.le_of_lt_succ hmm25)) hI2 hz15
                  · replace h := h.2 c13
                    refine v_aload_n cx 0 d_M_laysCatches_40 rfl rfl ?_
                    refine gf_M_81 cx d_M_laysCatches_41 ?_
                    refine v_iload_n cx 2 d_M_laysCatches_44 rfl rfl ?_
                    refine v_dup2 cx d_M_laysCatches_45 rfl rfl ?_
                    obtain ⟨hb16, h⟩ := h
                    refine v_iald cx zl_62 (by decide) hb16.1 hb16.2 d_M_laysCatches_46 (fun hl17 => ?_)
                    refine v_iconst cx d_M_laysCatches_47 ?_
                    refine v_iadd cx d_M_laysCatches_48 ?_
                    obtain ⟨hr18, h⟩ := h
                    refine v_iast cx zl_62 (by decide) hb16.1 hb16.2 hr18 d_M_laysCatches_49 ?_
                    refine v_ns (fun σ19 eσ19 => ?_)
                    replace h := h σ19 eσ19
                    refine v_aload_n cx 0 d_M_laysCatches_50 rfl rfl ?_
                    refine v_iload_n cx 2 d_M_laysCatches_51 rfl rfl ?_
                    refine v_callVi0 (st := []) cx (s_M_runOf hy11 h) yk_M_runOf lk_M_194 zl_41 rfl rfl rfl (Nat.le_of_ble_eq_true rfl) ⟨Nat.le_of_ble_eq_true rfl, Nat.le_of_ble_eq_true rfl⟩ ⟨rfl, rfl⟩ ⟨(Nat.le_of_ble_eq_true rfl), (Nat.le_of_ble_eq_true rfl)⟩ d_M_laysCatches_52 (fun r21 σ20 hr21 h => ?_)
                    refine v_istore_n (lv' := [(0, .ref (ad 41)), (1, .int (zI y6)), (2, .int (zI r21))]) cx d_M_laysCatches_55 rfl (by decide) rfl rfl ?_
                    refine v_goto cx 35 d_M_laysCatches_56 (by decide) ?_
                    obtain ⟨hI2, hm2⟩ := h
                    exact ih35 _ _ (Nat.lt_of_lt_of_le hm2 (Nat.le_of_lt_succ hmm35)) hI2 hr21
              exact L35 _ _ _ (Nat.lt_succ_self _) h0 hy6
        exact L25 _ _ _ (Nat.lt_succ_self _) h0 ⟨by decide, by decide⟩
      · replace h := h.2 c5
        refine v_aload_n cx 0 d_M_laysCatches_10 rfl rfl ?_
        refine gf_M_81 cx d_M_laysCatches_11 ?_
        refine v_iload_n cx 1 d_M_laysCatches_14 rfl rfl ?_
        refine v_iconst cx d_M_laysCatches_15 ?_
        obtain ⟨hb22, h⟩ := h
        refine v_iast cx zl_62 (by decide) hb22.1 hb22.2 ⟨by decide, by decide⟩ d_M_laysCatches_16 ?_
        refine v_ns (fun σ23 eσ23 => ?_)
        replace h := h σ23 eσ23
        refine v_iinc (lv' := [(0, .ref (ad 41)), (1, .int (zI (y1 + 1)))]) cx 1 d_M_laysCatches_17 rfl (by decide) rfl rfl ?_
        refine v_goto cx 2 d_M_laysCatches_20 (by decide) ?_
        obtain ⟨hI2, hz25, hm2⟩ := h
        exact ih2 _ _ (Nat.lt_of_lt_of_le hm2 (Nat.le_of_lt_succ hmm2)) hI2 hz25
  exact L2 _ _ _ (Nat.lt_succ_self _) h0 ⟨by decide, by decide⟩
def q_M_goesTo (to_ : Int) (kind : Int) (K : zS → Prop) (σ : zS) : Prop :=
  (kind ≠ 5 →
    ∃ (I11 : Int → zS → Prop) (μ11 : Int → zS → Nat), (I11 0 σ) ∧ ∀ (y2 : Int) (σ3 : zS), I11 y2 σ3 → zR y2 → 
    (648 ≤ y2 →
      ∃ (I66 : Int → zS → Prop) (μ66 : Int → zS → Nat), (I66 1 σ3) ∧ ∀ (y5 : Int) (σ6 : zS), I66 y5 σ6 → zR y5 → 
      (y5 = 0 →
        K σ6) ∧ (y5 ≠ 0 →
        ∃ (I75 : Int → Int → zS → Prop) (μ75 : Int → Int → zS → Nat), (I75 0 0 σ6) ∧ ∀ (y8 y9 : Int) (σ10 : zS), I75 y8 y9 σ10 → zR y8 → zR y9 → 
        q_M_places (fun r12 σ11 =>
          (r12 ≤ y9 →
            I66 y8 σ11 ∧ μ66 y8 σ11 < μ66 y5 σ6) ∧ (y9 < r12 →
            ∃ (I87 : Int → Int → zS → Prop) (μ87 : Int → Int → zS → Nat), (I87 y8 0 σ11) ∧ ∀ (y14 y15 : Int) (σ16 : zS), I87 y14 y15 σ16 → zR y14 → zR y15 → 
            (8 ≤ y15 →
              I75 y14 (y9 + 1) σ16 ∧ zR (y9 + 1) ∧ μ75 y14 (y9 + 1) σ16 < μ75 y8 y9 σ10) ∧ (y15 < 8 →
              (y9 = to_ →
                I75 y14 (y9 + 1) σ16 ∧ zR (y9 + 1) ∧ μ75 y14 (y9 + 1) σ16 < μ75 y8 y9 σ10) ∧ (y9 ≠ to_ →
                q_M_eases y9 y15 kind (fun r24 σ23 =>
                  (r24 ≠ 0 →
                    I87 1 (y15 + 1) σ23 ∧ zR (y15 + 1) ∧ μ87 1 (y15 + 1) σ23 < μ87 y14 y15 σ16) ∧ (r24 = 0 →
                    (y14 = 0 →
                      I87 0 (y15 + 1) σ23 ∧ zR (y15 + 1) ∧ μ87 0 (y15 + 1) σ23 < μ87 y14 y15 σ16) ∧ (y14 ≠ 0 →
                      I87 1 (y15 + 1) σ23 ∧ zR (y15 + 1) ∧ μ87 1 (y15 + 1) σ23 < μ87 y14 y15 σ16))) σ16)))) σ10)) ∧ (y2 < 648 →
      ∃ J37 : Int → Prop, (∀ (w33 : Int), J37 w33 → zR w33 → 
        (0 ≤ y2 ∧ y2 < 648) ∧ (∀ σ35 : zS, σ35 = zU σ3 51 y2 w33 → zR (Int.tdiv y2 8) ∧ (((Int.tdiv y2 8) ≠ to_ →
              ∀ σ38 : zS, σ38 = zU σ35 52 y2 1000000000 → I11 (y2 + 1) σ38 ∧ zR (y2 + 1) ∧ μ11 (y2 + 1) σ38 < μ11 y2 σ3) ∧ ((Int.tdiv y2 8) = to_ →
              ∀ σ41 : zS, σ41 = zU σ35 52 y2 0 → I11 (y2 + 1) σ41 ∧ zR (y2 + 1) ∧ μ11 (y2 + 1) σ41 < μ11 y2 σ3)))) ∧
      (zR (Int.tdiv y2 8) ∧ (((Int.tdiv y2 8) ≠ to_ →
            J37 1000000000) ∧ ((Int.tdiv y2 8) = to_ →
            J37 0))))) ∧ (kind = 5 →
    q_M_laysCatches (fun σ46 =>
      ∃ (I11 : Int → zS → Prop) (μ11 : Int → zS → Nat), (I11 0 σ46) ∧ ∀ (y47 : Int) (σ48 : zS), I11 y47 σ48 → zR y47 → 
      (648 ≤ y47 →
        ∃ (I66 : Int → zS → Prop) (μ66 : Int → zS → Nat), (I66 1 σ48) ∧ ∀ (y50 : Int) (σ51 : zS), I66 y50 σ51 → zR y50 → 
        (y50 = 0 →
          K σ51) ∧ (y50 ≠ 0 →
          ∃ (I75 : Int → Int → zS → Prop) (μ75 : Int → Int → zS → Nat), (I75 0 0 σ51) ∧ ∀ (y53 y54 : Int) (σ55 : zS), I75 y53 y54 σ55 → zR y53 → zR y54 → 
          q_M_places (fun r57 σ56 =>
            (r57 ≤ y54 →
              I66 y53 σ56 ∧ μ66 y53 σ56 < μ66 y50 σ51) ∧ (y54 < r57 →
              ∃ (I87 : Int → Int → zS → Prop) (μ87 : Int → Int → zS → Nat), (I87 y53 0 σ56) ∧ ∀ (y59 y60 : Int) (σ61 : zS), I87 y59 y60 σ61 → zR y59 → zR y60 → 
              (8 ≤ y60 →
                I75 y59 (y54 + 1) σ61 ∧ zR (y54 + 1) ∧ μ75 y59 (y54 + 1) σ61 < μ75 y53 y54 σ55) ∧ (y60 < 8 →
                (y54 = to_ →
                  I75 y59 (y54 + 1) σ61 ∧ zR (y54 + 1) ∧ μ75 y59 (y54 + 1) σ61 < μ75 y53 y54 σ55) ∧ (y54 ≠ to_ →
                  q_M_eases y54 y60 kind (fun r69 σ68 =>
                    (r69 ≠ 0 →
                      I87 1 (y60 + 1) σ68 ∧ zR (y60 + 1) ∧ μ87 1 (y60 + 1) σ68 < μ87 y59 y60 σ61) ∧ (r69 = 0 →
                      (y59 = 0 →
                        I87 0 (y60 + 1) σ68 ∧ zR (y60 + 1) ∧ μ87 0 (y60 + 1) σ68 < μ87 y59 y60 σ61) ∧ (y59 ≠ 0 →
                        I87 1 (y60 + 1) σ68 ∧ zR (y60 + 1) ∧ μ87 1 (y60 + 1) σ68 < μ87 y59 y60 σ61))) σ61)))) σ55)) ∧ (y47 < 648 →
        ∃ J37 : Int → Prop, (∀ (w78 : Int), J37 w78 → zR w78 → 
          (0 ≤ y47 ∧ y47 < 648) ∧ (∀ σ80 : zS, σ80 = zU σ48 51 y47 w78 → zR (Int.tdiv y47 8) ∧ (((Int.tdiv y47 8) ≠ to_ →
                ∀ σ83 : zS, σ83 = zU σ80 52 y47 1000000000 → I11 (y47 + 1) σ83 ∧ zR (y47 + 1) ∧ μ11 (y47 + 1) σ83 < μ11 y47 σ48) ∧ ((Int.tdiv y47 8) = to_ →
                ∀ σ86 : zS, σ86 = zU σ80 52 y47 0 → I11 (y47 + 1) σ86 ∧ zR (y47 + 1) ∧ μ11 (y47 + 1) σ86 < μ11 y47 σ48)))) ∧
        (zR (Int.tdiv y47 8) ∧ (((Int.tdiv y47 8) ≠ to_ →
              J37 1000000000) ∧ ((Int.tdiv y47 8) = to_ →
              J37 0))))) σ)
abbrev rm_M_goesTo : Room := { frames := 5, cells := 0, slots := 0, locals := 123 }
set_option maxRecDepth 20000 in
set_option maxHeartbeats 4000000 in
theorem s_M_goesTo {Ω : zO} {ad : Nat → Nat} {to_ : Int} {kind : Int} {K : zS → Prop} {σ : zS} (hto_ : zR to_) (hkind : zR kind) (h : q_M_goesTo to_ kind K σ) : zMv Ω y_M_goesTo (.code y_M_goesTo c_M_goesTo 6 none) rm_M_goesTo zLy ad [.ref (ad 41), .int (zI to_), .int (zI kind)] σ K := by
  refine z_ofv (lv := [(0, .ref (ad 41)), (1, .int (zI to_)), (2, .int (zI kind))]) (by decide) rfl (Nat.le_of_ble_eq_true rfl) ?_
  intro Γ Q cx rt
  unfold q_M_goesTo at h
  refine v_iload_n cx 2 d_M_goesTo_0 rfl rfl ?_
  refine v_iconst cx d_M_goesTo_1 ?_
  refine v_icmp_ne cx 9 d_M_goesTo_2 (by decide) hkind ⟨by decide, by decide⟩ (fun c1 => ?_) (fun c1 => ?_)
  · replace h := h.1 c1
    refine v_iconst cx d_M_goesTo_9 ?_
    refine v_istore_n (lv' := [(0, .ref (ad 41)), (1, .int (zI to_)), (2, .int (zI kind)), (3, .int (zI 0))]) cx d_M_goesTo_10 rfl (by decide) rfl rfl ?_
    obtain ⟨I11, μ11, h0, h⟩ := h
    have L11 : ∀ (N11 : Nat) (y2 : Int) (σ3 : zS), μ11 y2 σ3 < N11 → I11 y2 σ3 → zR y2 → zV Ω Γ rm_M_goesTo 6 Q 0 0 zLy ad σ3 11 [(0, .ref (ad 41)), (1, .int (zI to_)), (2, .int (zI kind)), (3, .int (zI y2))] [] := by
      intro N11
      induction N11 with
      | zero => intro y2 σ3 hm; exact absurd hm (Nat.not_lt_zero _)
      | succ N11 ih11 =>
        intro y2 σ3 hmm11 hI hy2
        replace h := h y2 σ3 hI hy2
        refine v_iload_n cx 3 d_M_goesTo_11 rfl rfl ?_
        refine v_sipush cx (by decide) d_M_goesTo_12 ?_
        refine v_icmp_ge cx 64 d_M_goesTo_15 (by decide) hy2 ⟨by decide, by decide⟩ (fun c4 => ?_) (fun c4 => ?_)
        · replace h := h.1 c4
          refine v_iconst cx d_M_goesTo_64 ?_
          refine v_istore_n (lv' := [(0, .ref (ad 41)), (1, .int (zI to_)), (2, .int (zI kind)), (3, .int (zI 1))]) cx d_M_goesTo_65 rfl (by decide) rfl rfl ?_
          obtain ⟨I66, μ66, h0, h⟩ := h
          have L66 : ∀ (N66 : Nat) (y5 : Int) (σ6 : zS), μ66 y5 σ6 < N66 → I66 y5 σ6 → zR y5 → zV Ω Γ rm_M_goesTo 6 Q 0 0 zLy ad σ6 66 [(0, .ref (ad 41)), (1, .int (zI to_)), (2, .int (zI kind)), (3, .int (zI y5))] [] := by
            intro N66
            induction N66 with
            | zero => intro y5 σ6 hm; exact absurd hm (Nat.not_lt_zero _)
            | succ N66 ih66 =>
              intro y5 σ6 hmm66 hI hy5
              replace h := h y5 σ6 hI hy5
              refine v_iload_n cx 3 d_M_goesTo_66 rfl rfl ?_
              refine v_if_eq cx 137 d_M_goesTo_67 (by decide) hy5 (fun c7 => ?_) (fun c7 => ?_)
              · replace h := h.1 c7
                exact rt _ _ _ _ _ (Nat.le_of_ble_eq_true rfl) (Nat.le_of_ble_eq_true rfl) d_M_goesTo_137 h
              · replace h := h.2 c7
                refine v_iconst cx d_M_goesTo_70 ?_
                refine v_istore_n (lv' := [(0, .ref (ad 41)), (1, .int (zI to_)), (2, .int (zI kind)), (3, .int (zI 0))]) cx d_M_goesTo_71 rfl (by decide) rfl rfl ?_
                refine v_iconst cx d_M_goesTo_72 ?_
                refine v_istore (lv' := [(0, .ref (ad 41)), (1, .int (zI to_)), (2, .int (zI kind)), (3, .int (zI 0)), (4, .int (zI 0))]) cx d_M_goesTo_73 (by decide) rfl rfl ?_
                obtain ⟨I75, μ75, h0, h⟩ := h
                have L75 : ∀ (N75 : Nat) (y8 y9 : Int) (σ10 : zS), μ75 y8 y9 σ10 < N75 → I75 y8 y9 σ10 → zR y8 → zR y9 → zV Ω Γ rm_M_goesTo 6 Q 0 0 zLy ad σ10 75 [(0, .ref (ad 41)), (1, .int (zI to_)), (2, .int (zI kind)), (3, .int (zI y8)), (4, .int (zI y9))] [] := by
                  intro N75
                  induction N75 with
                  | zero => intro y8 y9 σ10 hm; exact absurd hm (Nat.not_lt_zero _)
                  | succ N75 ih75 =>
                    intro y8 y9 σ10 hmm75 hI hy8 hy9
                    replace h := h y8 y9 σ10 hI hy8 hy9
                    refine v_iload cx 4 d_M_goesTo_75 rfl ?_
                    refine v_aload_n cx 0 d_M_goesTo_77 rfl rfl ?_
                    refine v_callVi0 (st := [.int (zI y9)]) cx (s_M_places  h) yk_M_places lk_M_90 zl_41 rfl rfl rfl (Nat.le_of_ble_eq_true rfl) ⟨Nat.le_of_ble_eq_true rfl, Nat.le_of_ble_eq_true rfl⟩ ⟨rfl, rfl⟩ ⟨(Nat.le_of_ble_eq_true rfl), (Nat.le_of_ble_eq_true rfl)⟩ d_M_goesTo_78 (fun r12 σ11 hr12 h => ?_)
                    refine v_icmp_ge cx 134 d_M_goesTo_81 (by decide) hy9 hr12 (fun c13 => ?_) (fun c13 => ?_)
                    · replace h := h.1 c13
                      refine v_goto cx 66 d_M_goesTo_134 (by decide) ?_
                      refine v_sb (lv' := [(0, .ref (ad 41)), (1, .int (zI to_)), (2, .int (zI kind)), (3, .int (zI y8))]) [0, 1, 2, 3] rfl ?_
                      obtain ⟨hI2, hm2⟩ := h
                      exact ih66 _ _ (Nat.lt_of_lt_of_le hm2 (Nat.le_of_lt_succ hmm66)) hI2 hy8
                    · replace h := h.2 c13
                      refine v_iconst cx d_M_goesTo_84 ?_
                      refine v_istore (lv' := [(0, .ref (ad 41)), (1, .int (zI to_)), (2, .int (zI kind)), (3, .int (zI y8)), (4, .int (zI y9)), (5, .int (zI 0))]) cx d_M_goesTo_85 (by decide) rfl rfl ?_
                      obtain ⟨I87, μ87, h0, h⟩ := h
                      have L87 : ∀ (N87 : Nat) (y14 y15 : Int) (σ16 : zS), μ87 y14 y15 σ16 < N87 → I87 y14 y15 σ16 → zR y14 → zR y15 → zV Ω Γ rm_M_goesTo 6 Q 0 0 zLy ad σ16 87 [(0, .ref (ad 41)), (1, .int (zI to_)), (2, .int (zI kind)), (3, .int (zI y14)), (4, .int (zI y9)), (5, .int (zI y15))] [] := by
                        intro N87
                        induction N87 with
                        | zero => intro y14 y15 σ16 hm; exact absurd hm (Nat.not_lt_zero _)
                        | succ N87 ih87 =>
                          intro y14 y15 σ16 hmm87 hI hy14 hy15
                          replace h := h y14 y15 σ16 hI hy14 hy15
                          refine v_iload cx 5 d_M_goesTo_87 rfl ?_
                          refine v_bipush cx (by decide) d_M_goesTo_89 ?_
                          refine v_icmp_ge cx 128 d_M_goesTo_91 (by decide) hy15 ⟨by decide, by decide⟩ (fun c17 => ?_) (fun c17 => ?_)
                          · replace h := h.1 c17
                            refine v_iinc (lv' := [(0, .ref (ad 41)), (1, .int (zI to_)), (2, .int (zI kind)), (3, .int (zI y14)), (4, .int (zI (y9 + 1))), (5, .int (zI y15))]) cx 4 d_M_goesTo_128 rfl (by decide) rfl rfl ?_
                            refine v_goto cx 75 d_M_goesTo_131 (by decide) ?_
                            refine v_sb (lv' := [(0, .ref (ad 41)), (1, .int (zI to_)), (2, .int (zI kind)), (3, .int (zI y14)), (4, .int (zI (y9 + 1)))]) [0, 1, 2, 3, 4] rfl ?_
                            obtain ⟨hI2, hz19, hm2⟩ := h
                            exact ih75 _ _ _ (Nat.lt_of_lt_of_le hm2 (Nat.le_of_lt_succ hmm75)) hI2 hy14 hz19
                          · replace h := h.2 c17
                            refine v_iload cx 4 d_M_goesTo_94 rfl ?_
                            refine v_iload_n cx 1 d_M_goesTo_96 rfl rfl ?_
                            refine v_icmp_eq cx 128 d_M_goesTo_97 (by decide) hy9 hto_ (fun c20 => ?_) (fun c20 => ?_)
                            · replace h := h.1 c20
                              refine v_iinc (lv' := [(0, .ref (ad 41)), (1, .int (zI to_)), (2, .int (zI kind)), (3, .int (zI y14)), (4, .int (zI (y9 + 1))), (5, .int (zI y15))]) cx 4 d_M_goesTo_128 rfl (by decide) rfl rfl ?_
                              refine v_goto cx 75 d_M_goesTo_131 (by decide) ?_
                              refine v_sb (lv' := [(0, .ref (ad 41)), (1, .int (zI to_)), (2, .int (zI kind)), (3, .int (zI y14)), (4, .int (zI (y9 + 1)))]) [0, 1, 2, 3, 4] rfl ?_
                              obtain ⟨hI2, hz22, hm2⟩ := h
                              exact ih75 _ _ _ (Nat.lt_of_lt_of_le hm2 (Nat.le_of_lt_succ hmm75)) hI2 hy14 hz22
                            · replace h := h.2 c20
                              refine v_aload_n cx 0 d_M_goesTo_100 rfl rfl ?_
                              refine v_iload cx 4 d_M_goesTo_101 rfl ?_
                              refine v_iload cx 5 d_M_goesTo_103 rfl ?_
                              refine v_iload_n cx 2 d_M_goesTo_105 rfl rfl ?_
                              refine v_callVz0 (st := []) cx (s_M_eases hy9 hy15 hkind h) yk_M_eases lk_M_165 zl_41 rfl rfl rfl (Nat.le_of_ble_eq_true rfl) ⟨Nat.le_of_ble_eq_true rfl, Nat.le_of_ble_eq_true rfl⟩ ⟨rfl, rfl⟩ ⟨(Nat.le_of_ble_eq_true rfl), (Nat.le_of_ble_eq_true rfl)⟩ d_M_goesTo_106 (fun r24 σ23 hr24 h => ?_)
                              refine v_if_ne cx 116 d_M_goesTo_109 (by decide) (zR_b hr24) (fun c25 => ?_) (fun c25 => ?_)
                              · replace h := h.1 c25
                                refine v_iconst cx d_M_goesTo_116 ?_
                                refine v_goto cx 121 d_M_goesTo_117 (by decide) ?_
                                refine v_istore_n (lv' := [(0, .ref (ad 41)), (1, .int (zI to_)), (2, .int (zI kind)), (3, .int (zI 1)), (4, .int (zI y9)), (5, .int (zI y15))]) cx d_M_goesTo_121 rfl (by decide) rfl rfl ?_
                                refine v_iinc (lv' := [(0, .ref (ad 41)), (1, .int (zI to_)), (2, .int (zI kind)), (3, .int (zI 1)), (4, .int (zI y9)), (5, .int (zI (y15 + 1)))]) cx 5 d_M_goesTo_122 rfl (by decide) rfl rfl ?_
                                refine v_goto cx 87 d_M_goesTo_125 (by decide) ?_
                                obtain ⟨hI2, hz27, hm2⟩ := h
                                exact ih87 _ _ _ (Nat.lt_of_lt_of_le hm2 (Nat.le_of_lt_succ hmm87)) hI2 ⟨by decide, by decide⟩ hz27
                              · replace h := h.2 c25
                                refine v_iload_n cx 3 d_M_goesTo_112 rfl rfl ?_
                                refine v_if_eq cx 120 d_M_goesTo_113 (by decide) hy14 (fun c28 => ?_) (fun c28 => ?_)
                                · replace h := h.1 c28
                                  refine v_iconst cx d_M_goesTo_120 ?_
                                  refine v_istore_n (lv' := [(0, .ref (ad 41)), (1, .int (zI to_)), (2, .int (zI kind)), (3, .int (zI 0)), (4, .int (zI y9)), (5, .int (zI y15))]) cx d_M_goesTo_121 rfl (by decide) rfl rfl ?_
                                  refine v_iinc (lv' := [(0, .ref (ad 41)), (1, .int (zI to_)), (2, .int (zI kind)), (3, .int (zI 0)), (4, .int (zI y9)), (5, .int (zI (y15 + 1)))]) cx 5 d_M_goesTo_122 rfl (by decide) rfl rfl ?_
                                  refine v_goto cx 87 d_M_goesTo_125 (by decide) ?_
                                  obtain ⟨hI2, hz30, hm2⟩ := h
                                  exact ih87 _ _ _ (Nat.lt_of_lt_of_le hm2 (Nat.le_of_lt_succ hmm87)) hI2 ⟨by decide, by decide⟩ hz30
                                · replace h := h.2 c28
                                  refine v_iconst cx d_M_goesTo_116 ?_
                                  refine v_goto cx 121 d_M_goesTo_117 (by decide) ?_
                                  refine v_istore_n (lv' := [(0, .ref (ad 41)), (1, .int (zI to_)), (2, .int (zI kind)), (3, .int (zI 1)), (4, .int (zI y9)), (5, .int (zI y15))]) cx d_M_goesTo_121 rfl (by decide) rfl rfl ?_
                                  refine v_iinc (lv' := [(0, .ref (ad 41)), (1, .int (zI to_)), (2, .int (zI kind)), (3, .int (zI 1)), (4, .int (zI y9)), (5, .int (zI (y15 + 1)))]) cx 5 d_M_goesTo_122 rfl (by decide) rfl rfl ?_
                                  refine v_goto cx 87 d_M_goesTo_125 (by decide) ?_
                                  obtain ⟨hI2, hz32, hm2⟩ := h
                                  exact ih87 _ _ _ (Nat.lt_of_lt_of_le hm2 (Nat.le_of_lt_succ hmm87)) hI2 ⟨by decide, by decide⟩ hz32
                      exact L87 _ _ _ _ (Nat.lt_succ_self _) h0 hy8 ⟨by decide, by decide⟩
                exact L75 _ _ _ _ (Nat.lt_succ_self _) h0 ⟨by decide, by decide⟩ ⟨by decide, by decide⟩
          exact L66 _ _ _ (Nat.lt_succ_self _) h0 ⟨by decide, by decide⟩
        · replace h := h.2 c4
          refine v_aload_n cx 0 d_M_goesTo_18 rfl rfl ?_
          refine gf_M_41 cx d_M_goesTo_19 ?_
          refine v_iload_n cx 3 d_M_goesTo_22 rfl rfl ?_
          refine v_iload_n cx 3 d_M_goesTo_23 rfl rfl ?_
          refine v_bipush cx (by decide) d_M_goesTo_24 ?_
          refine v_idiv cx d_M_goesTo_26 hy2 ⟨by decide, by decide⟩ (by decide) (Or.inr (by decide)) ?_
          refine v_iload_n cx 1 d_M_goesTo_27 rfl rfl ?_
          obtain ⟨J37, hJ37, h⟩ := h
          have G37 : ∀ (w33 : Int), J37 w33 → zR w33 → zV Ω Γ rm_M_goesTo 6 Q 0 0 zLy ad σ3 37 [(0, .ref (ad 41)), (1, .int (zI to_)), (2, .int (zI kind)), (3, .int (zI y2))] [.int (zI w33), .int (zI y2), .ref (ad 51)] := by
            intro w33 hJ hw33
            replace h := hJ37 w33 hJ hw33
            obtain ⟨hb34, h⟩ := h
            refine v_iast cx zl_51 (by decide) hb34.1 hb34.2 hw33 d_M_goesTo_37 ?_
            refine v_ns (fun σ35 eσ35 => ?_)
            replace h := h σ35 eσ35
            refine v_aload_n cx 0 d_M_goesTo_38 rfl rfl ?_
            refine gf_M_44 cx d_M_goesTo_39 ?_
            refine v_iload_n cx 3 d_M_goesTo_42 rfl rfl ?_
            refine v_iload_n cx 3 d_M_goesTo_43 rfl rfl ?_
            refine v_bipush cx (by decide) d_M_goesTo_44 ?_
            refine v_idiv cx d_M_goesTo_46 hy2 ⟨by decide, by decide⟩ (by decide) (Or.inr (by decide)) ?_
            refine v_iload_n cx 1 d_M_goesTo_47 rfl rfl ?_
            obtain ⟨hr36, h⟩ := h
            refine v_icmp_ne cx 55 d_M_goesTo_48 (by decide) hr36 hto_ (fun c37 => ?_) (fun c37 => ?_)
            · replace h := h.1 c37
              refine v_ldc cx ct_M_155 d_M_goesTo_55 ?_
              refine v_iast cx zl_52 (by decide) hb34.1 hb34.2 ⟨by decide, by decide⟩ d_M_goesTo_57 ?_
              refine v_ns (fun σ38 eσ38 => ?_)
              replace h := h σ38 eσ38
              refine v_iinc (lv' := [(0, .ref (ad 41)), (1, .int (zI to_)), (2, .int (zI kind)), (3, .int (zI (y2 + 1)))]) cx 3 d_M_goesTo_58 rfl (by decide) rfl rfl ?_
              refine v_goto cx 11 d_M_goesTo_61 (by decide) ?_
              obtain ⟨hI2, hz40, hm2⟩ := h
              exact ih11 _ _ (Nat.lt_of_lt_of_le hm2 (Nat.le_of_lt_succ hmm11)) hI2 hz40
            · replace h := h.2 c37
              refine v_iconst cx d_M_goesTo_51 ?_
              refine v_goto cx 57 d_M_goesTo_52 (by decide) ?_
              refine v_iast cx zl_52 (by decide) hb34.1 hb34.2 ⟨by decide, by decide⟩ d_M_goesTo_57 ?_
              refine v_ns (fun σ41 eσ41 => ?_)
              replace h := h σ41 eσ41
              refine v_iinc (lv' := [(0, .ref (ad 41)), (1, .int (zI to_)), (2, .int (zI kind)), (3, .int (zI (y2 + 1)))]) cx 3 d_M_goesTo_58 rfl (by decide) rfl rfl ?_
              refine v_goto cx 11 d_M_goesTo_61 (by decide) ?_
              obtain ⟨hI2, hz43, hm2⟩ := h
              exact ih11 _ _ (Nat.lt_of_lt_of_le hm2 (Nat.le_of_lt_succ hmm11)) hI2 hz43
          obtain ⟨hr44, h⟩ := h
          refine v_icmp_ne cx 35 d_M_goesTo_28 (by decide) hr44 hto_ (fun c45 => ?_) (fun c45 => ?_)
          · replace h := h.1 c45
            refine v_ldc cx ct_M_155 d_M_goesTo_35 ?_
            have hJ2 := h
            exact G37 _ hJ2 ⟨by decide, by decide⟩
          · replace h := h.2 c45
            refine v_iconst cx d_M_goesTo_31 ?_
            refine v_goto cx 37 d_M_goesTo_32 (by decide) ?_
            have hJ2 := h
            exact G37 _ hJ2 ⟨by decide, by decide⟩
    exact L11 _ _ _ (Nat.lt_succ_self _) h0 ⟨by decide, by decide⟩
  · replace h := h.2 c1
    refine v_aload_n cx 0 d_M_goesTo_5 rfl rfl ?_
    refine v_callVv0 (st := []) cx (s_M_laysCatches  h) yk_M_laysCatches lk_M_162 zl_41 rfl rfl rfl (Nat.le_of_ble_eq_true rfl) ⟨Nat.le_of_ble_eq_true rfl, Nat.le_of_ble_eq_true rfl⟩ ⟨rfl, rfl⟩ ⟨(Nat.le_of_ble_eq_true rfl), (Nat.le_of_ble_eq_true rfl)⟩ d_M_goesTo_6 (fun σ46 h => ?_)
    refine v_iconst cx d_M_goesTo_9 ?_
    refine v_istore_n (lv' := [(0, .ref (ad 41)), (1, .int (zI to_)), (2, .int (zI kind)), (3, .int (zI 0))]) cx d_M_goesTo_10 rfl (by decide) rfl rfl ?_
    obtain ⟨I11, μ11, h0, h⟩ := h
    have L11 : ∀ (N11 : Nat) (y47 : Int) (σ48 : zS), μ11 y47 σ48 < N11 → I11 y47 σ48 → zR y47 → zV Ω Γ rm_M_goesTo 6 Q 0 0 zLy ad σ48 11 [(0, .ref (ad 41)), (1, .int (zI to_)), (2, .int (zI kind)), (3, .int (zI y47))] [] := by
      intro N11
      induction N11 with
      | zero => intro y47 σ48 hm; exact absurd hm (Nat.not_lt_zero _)
      | succ N11 ih11 =>
        intro y47 σ48 hmm11 hI hy47
        replace h := h y47 σ48 hI hy47
        refine v_iload_n cx 3 d_M_goesTo_11 rfl rfl ?_
        refine v_sipush cx (by decide) d_M_goesTo_12 ?_
        refine v_icmp_ge cx 64 d_M_goesTo_15 (by decide) hy47 ⟨by decide, by decide⟩ (fun c49 => ?_) (fun c49 => ?_)
        · replace h := h.1 c49
          refine v_iconst cx d_M_goesTo_64 ?_
          refine v_istore_n (lv' := [(0, .ref (ad 41)), (1, .int (zI to_)), (2, .int (zI kind)), (3, .int (zI 1))]) cx d_M_goesTo_65 rfl (by decide) rfl rfl ?_
          obtain ⟨I66, μ66, h0, h⟩ := h
          have L66 : ∀ (N66 : Nat) (y50 : Int) (σ51 : zS), μ66 y50 σ51 < N66 → I66 y50 σ51 → zR y50 → zV Ω Γ rm_M_goesTo 6 Q 0 0 zLy ad σ51 66 [(0, .ref (ad 41)), (1, .int (zI to_)), (2, .int (zI kind)), (3, .int (zI y50))] [] := by
            intro N66
            induction N66 with
            | zero => intro y50 σ51 hm; exact absurd hm (Nat.not_lt_zero _)
            | succ N66 ih66 =>
              intro y50 σ51 hmm66 hI hy50
              replace h := h y50 σ51 hI hy50
              refine v_iload_n cx 3 d_M_goesTo_66 rfl rfl ?_
              refine v_if_eq cx 137 d_M_goesTo_67 (by decide) hy50 (fun c52 => ?_) (fun c52 => ?_)
              · replace h := h.1 c52
                exact rt _ _ _ _ _ (Nat.le_of_ble_eq_true rfl) (Nat.le_of_ble_eq_true rfl) d_M_goesTo_137 h
              · replace h := h.2 c52
                refine v_iconst cx d_M_goesTo_70 ?_
                refine v_istore_n (lv' := [(0, .ref (ad 41)), (1, .int (zI to_)), (2, .int (zI kind)), (3, .int (zI 0))]) cx d_M_goesTo_71 rfl (by decide) rfl rfl ?_
                refine v_iconst cx d_M_goesTo_72 ?_
                refine v_istore (lv' := [(0, .ref (ad 41)), (1, .int (zI to_)), (2, .int (zI kind)), (3, .int (zI 0)), (4, .int (zI 0))]) cx d_M_goesTo_73 (by decide) rfl rfl ?_
                obtain ⟨I75, μ75, h0, h⟩ := h
                have L75 : ∀ (N75 : Nat) (y53 y54 : Int) (σ55 : zS), μ75 y53 y54 σ55 < N75 → I75 y53 y54 σ55 → zR y53 → zR y54 → zV Ω Γ rm_M_goesTo 6 Q 0 0 zLy ad σ55 75 [(0, .ref (ad 41)), (1, .int (zI to_)), (2, .int (zI kind)), (3, .int (zI y53)), (4, .int (zI y54))] [] := by
                  intro N75
                  induction N75 with
                  | zero => intro y53 y54 σ55 hm; exact absurd hm (Nat.not_lt_zero _)
                  | succ N75 ih75 =>
                    intro y53 y54 σ55 hmm75 hI hy53 hy54
                    replace h := h y53 y54 σ55 hI hy53 hy54
                    refine v_iload cx 4 d_M_goesTo_75 rfl ?_
                    refine v_aload_n cx 0 d_M_goesTo_77 rfl rfl ?_
                    refine v_callVi0 (st := [.int (zI y54)]) cx (s_M_places  h) yk_M_places lk_M_90 zl_41 rfl rfl rfl (Nat.le_of_ble_eq_true rfl) ⟨Nat.le_of_ble_eq_true rfl, Nat.le_of_ble_eq_true rfl⟩ ⟨rfl, rfl⟩ ⟨(Nat.le_of_ble_eq_true rfl), (Nat.le_of_ble_eq_true rfl)⟩ d_M_goesTo_78 (fun r57 σ56 hr57 h => ?_)
                    refine v_icmp_ge cx 134 d_M_goesTo_81 (by decide) hy54 hr57 (fun c58 => ?_) (fun c58 => ?_)
                    · replace h := h.1 c58
                      refine v_goto cx 66 d_M_goesTo_134 (by decide) ?_
                      refine v_sb (lv' := [(0, .ref (ad 41)), (1, .int (zI to_)), (2, .int (zI kind)), (3, .int (zI y53))]) [0, 1, 2, 3] rfl ?_
                      obtain ⟨hI2, hm2⟩ := h
                      exact ih66 _ _ (Nat.lt_of_lt_of_le hm2 (Nat.le_of_lt_succ hmm66)) hI2 hy53
                    · replace h := h.2 c58
                      refine v_iconst cx d_M_goesTo_84 ?_
                      refine v_istore (lv' := [(0, .ref (ad 41)), (1, .int (zI to_)), (2, .int (zI kind)), (3, .int (zI y53)), (4, .int (zI y54)), (5, .int (zI 0))]) cx d_M_goesTo_85 (by decide) rfl rfl ?_
                      obtain ⟨I87, μ87, h0, h⟩ := h
                      have L87 : ∀ (N87 : Nat) (y59 y60 : Int) (σ61 : zS), μ87 y59 y60 σ61 < N87 → I87 y59 y60 σ61 → zR y59 → zR y60 → zV Ω Γ rm_M_goesTo 6 Q 0 0 zLy ad σ61 87 [(0, .ref (ad 41)), (1, .int (zI to_)), (2, .int (zI kind)), (3, .int (zI y59)), (4, .int (zI y54)), (5, .int (zI y60))] [] := by
                        intro N87
                        induction N87 with
                        | zero => intro y59 y60 σ61 hm; exact absurd hm (Nat.not_lt_zero _)
                        | succ N87 ih87 =>
                          intro y59 y60 σ61 hmm87 hI hy59 hy60
                          replace h := h y59 y60 σ61 hI hy59 hy60
                          refine v_iload cx 5 d_M_goesTo_87 rfl ?_
                          refine v_bipush cx (by decide) d_M_goesTo_89 ?_
                          refine v_icmp_ge cx 128 d_M_goesTo_91 (by decide) hy60 ⟨by decide, by decide⟩ (fun c62 => ?_) (fun c62 => ?_)
                          · replace h := h.1 c62
                            refine v_iinc (lv' := [(0, .ref (ad 41)), (1, .int (zI to_)), (2, .int (zI kind)), (3, .int (zI y59)), (4, .int (zI (y54 + 1))), (5, .int (zI y60))]) cx 4 d_M_goesTo_128 rfl (by decide) rfl rfl ?_
                            refine v_goto cx 75 d_M_goesTo_131 (by decide) ?_
                            refine v_sb (lv' := [(0, .ref (ad 41)), (1, .int (zI to_)), (2, .int (zI kind)), (3, .int (zI y59)), (4, .int (zI (y54 + 1)))]) [0, 1, 2, 3, 4] rfl ?_
                            obtain ⟨hI2, hz64, hm2⟩ := h
                            exact ih75 _ _ _ (Nat.lt_of_lt_of_le hm2 (Nat.le_of_lt_succ hmm75)) hI2 hy59 hz64
                          · replace h := h.2 c62
                            refine v_iload cx 4 d_M_goesTo_94 rfl ?_
                            refine v_iload_n cx 1 d_M_goesTo_96 rfl rfl ?_
                            refine v_icmp_eq cx 128 d_M_goesTo_97 (by decide) hy54 hto_ (fun c65 => ?_) (fun c65 => ?_)
                            · replace h := h.1 c65
                              refine v_iinc (lv' := [(0, .ref (ad 41)), (1, .int (zI to_)), (2, .int (zI kind)), (3, .int (zI y59)), (4, .int (zI (y54 + 1))), (5, .int (zI y60))]) cx 4 d_M_goesTo_128 rfl (by decide) rfl rfl ?_
                              refine v_goto cx 75 d_M_goesTo_131 (by decide) ?_
                              refine v_sb (lv' := [(0, .ref (ad 41)), (1, .int (zI to_)), (2, .int (zI kind)), (3, .int (zI y59)), (4, .int (zI (y54 + 1)))]) [0, 1, 2, 3, 4] rfl ?_
                              obtain ⟨hI2, hz67, hm2⟩ := h
                              exact ih75 _ _ _ (Nat.lt_of_lt_of_le hm2 (Nat.le_of_lt_succ hmm75)) hI2 hy59 hz67
                            · replace h := h.2 c65
                              refine v_aload_n cx 0 d_M_goesTo_100 rfl rfl ?_
                              refine v_iload cx 4 d_M_goesTo_101 rfl ?_
                              refine v_iload cx 5 d_M_goesTo_103 rfl ?_
                              refine v_iload_n cx 2 d_M_goesTo_105 rfl rfl ?_
                              refine v_callVz0 (st := []) cx (s_M_eases hy54 hy60 hkind h) yk_M_eases lk_M_165 zl_41 rfl rfl rfl (Nat.le_of_ble_eq_true rfl) ⟨Nat.le_of_ble_eq_true rfl, Nat.le_of_ble_eq_true rfl⟩ ⟨rfl, rfl⟩ ⟨(Nat.le_of_ble_eq_true rfl), (Nat.le_of_ble_eq_true rfl)⟩ d_M_goesTo_106 (fun r69 σ68 hr69 h => ?_)
                              refine v_if_ne cx 116 d_M_goesTo_109 (by decide) (zR_b hr69) (fun c70 => ?_) (fun c70 => ?_)
                              · replace h := h.1 c70
                                refine v_iconst cx d_M_goesTo_116 ?_
                                refine v_goto cx 121 d_M_goesTo_117 (by decide) ?_
                                refine v_istore_n (lv' := [(0, .ref (ad 41)), (1, .int (zI to_)), (2, .int (zI kind)), (3, .int (zI 1)), (4, .int (zI y54)), (5, .int (zI y60))]) cx d_M_goesTo_121 rfl (by decide) rfl rfl ?_
                                refine v_iinc (lv' := [(0, .ref (ad 41)), (1, .int (zI to_)), (2, .int (zI kind)), (3, .int (zI 1)), (4, .int (zI y54)), (5, .int (zI (y60 + 1)))]) cx 5 d_M_goesTo_122 rfl (by decide) rfl rfl ?_
                                refine v_goto cx 87 d_M_goesTo_125 (by decide) ?_
                                obtain ⟨hI2, hz72, hm2⟩ := h
                                exact ih87 _ _ _ (Nat.lt_of_lt_of_le hm2 (Nat.le_of_lt_succ hmm87)) hI2 ⟨by decide, by decide⟩ hz72
                              · replace h := h.2 c70
                                refine v_iload_n cx 3 d_M_goesTo_112 rfl rfl ?_
                                refine v_if_eq cx 120 d_M_goesTo_113 (by decide) hy59 (fun c73 => ?_) (fun c73 => ?_)
                                · replace h := h.1 c73
                                  refine v_iconst cx d_M_goesTo_120 ?_
                                  refine v_istore_n (lv' := [(0, .ref (ad 41)), (1, .int (zI to_)), (2, .int (zI kind)), (3, .int (zI 0)), (4, .int (zI y54)), (5, .int (zI y60))]) cx d_M_goesTo_121 rfl (by decide) rfl rfl ?_
                                  refine v_iinc (lv' := [(0, .ref (ad 41)), (1, .int (zI to_)), (2, .int (zI kind)), (3, .int (zI 0)), (4, .int (zI y54)), (5, .int (zI (y60 + 1)))]) cx 5 d_M_goesTo_122 rfl (by decide) rfl rfl ?_
                                  refine v_goto cx 87 d_M_goesTo_125 (by decide) ?_
                                  obtain ⟨hI2, hz75, hm2⟩ := h
                                  exact ih87 _ _ _ (Nat.lt_of_lt_of_le hm2 (Nat.le_of_lt_succ hmm87)) hI2 ⟨by decide, by decide⟩ hz75
                                · replace h := h.2 c73
                                  refine v_iconst cx d_M_goesTo_116 ?_
                                  refine v_goto cx 121 d_M_goesTo_117 (by decide) ?_
                                  refine v_istore_n (lv' := [(0, .ref (ad 41)), (1, .int (zI to_)), (2, .int (zI kind)), (3, .int (zI 1)), (4, .int (zI y54)), (5, .int (zI y60))]) cx d_M_goesTo_121 rfl (by decide) rfl rfl ?_
                                  refine v_iinc (lv' := [(0, .ref (ad 41)), (1, .int (zI to_)), (2, .int (zI kind)), (3, .int (zI 1)), (4, .int (zI y54)), (5, .int (zI (y60 + 1)))]) cx 5 d_M_goesTo_122 rfl (by decide) rfl rfl ?_
                                  refine v_goto cx 87 d_M_goesTo_125 (by decide) ?_
                                  obtain ⟨hI2, hz77, hm2⟩ := h
                                  exact ih87 _ _ _ (Nat.lt_of_lt_of_le hm2 (Nat.le_of_lt_succ hmm87)) hI2 ⟨by decide, by decide⟩ hz77
                      exact L87 _ _ _ _ (Nat.lt_succ_self _) h0 hy53 ⟨by decide, by decide⟩
                exact L75 _ _ _ _ (Nat.lt_succ_self _) h0 ⟨by decide, by decide⟩ ⟨by decide, by decide⟩
          exact L66 _ _ _ (Nat.lt_succ_self _) h0 ⟨by decide, by decide⟩
        · replace h := h.2 c49
          refine v_aload_n cx 0 d_M_goesTo_18 rfl rfl ?_
          refine gf_M_41 cx d_M_goesTo_19 ?_
          refine v_iload_n cx 3 d_M_goesTo_22 rfl rfl ?_
          refine v_iload_n cx 3 d_M_goesTo_23 rfl rfl ?_
          refine v_bipush cx (by decide) d_M_goesTo_24 ?_
          refine v_idiv cx d_M_goesTo_26 hy47 ⟨by decide, by decide⟩ (by decide) (Or.inr (by decide)) ?_
          refine v_iload_n cx 1 d_M_goesTo_27 rfl rfl ?_
          obtain ⟨J37, hJ37, h⟩ := h
          have G37 : ∀ (w78 : Int), J37 w78 → zR w78 → zV Ω Γ rm_M_goesTo 6 Q 0 0 zLy ad σ48 37 [(0, .ref (ad 41)), (1, .int (zI to_)), (2, .int (zI kind)), (3, .int (zI y47))] [.int (zI w78), .int (zI y47), .ref (ad 51)] := by
            intro w78 hJ hw78
            replace h := hJ37 w78 hJ hw78
            obtain ⟨hb79, h⟩ := h
            refine v_iast cx zl_51 (by decide) hb79.1 hb79.2 hw78 d_M_goesTo_37 ?_
            refine v_ns (fun σ80 eσ80 => ?_)
            replace h := h σ80 eσ80
            refine v_aload_n cx 0 d_M_goesTo_38 rfl rfl ?_
            refine gf_M_44 cx d_M_goesTo_39 ?_
            refine v_iload_n cx 3 d_M_goesTo_42 rfl rfl ?_
            refine v_iload_n cx 3 d_M_goesTo_43 rfl rfl ?_
            refine v_bipush cx (by decide) d_M_goesTo_44 ?_
            refine v_idiv cx d_M_goesTo_46 hy47 ⟨by decide, by decide⟩ (by decide) (Or.inr (by decide)) ?_
            refine v_iload_n cx 1 d_M_goesTo_47 rfl rfl ?_
            obtain ⟨hr81, h⟩ := h
            refine v_icmp_ne cx 55 d_M_goesTo_48 (by decide) hr81 hto_ (fun c82 => ?_) (fun c82 => ?_)
            · replace h := h.1 c82
              refine v_ldc cx ct_M_155 d_M_goesTo_55 ?_
              refine v_iast cx zl_52 (by decide) hb79.1 hb79.2 ⟨by decide, by decide⟩ d_M_goesTo_57 ?_
              refine v_ns (fun σ83 eσ83 => ?_)
              replace h := h σ83 eσ83
              refine v_iinc (lv' := [(0, .ref (ad 41)), (1, .int (zI to_)), (2, .int (zI kind)), (3, .int (zI (y47 + 1)))]) cx 3 d_M_goesTo_58 rfl (by decide) rfl rfl ?_
              refine v_goto cx 11 d_M_goesTo_61 (by decide) ?_
              obtain ⟨hI2, hz85, hm2⟩ := h
              exact ih11 _ _ (Nat.lt_of_lt_of_le hm2 (Nat.le_of_lt_succ hmm11)) hI2 hz85
            · replace h := h.2 c82
              refine v_iconst cx d_M_goesTo_51 ?_
              refine v_goto cx 57 d_M_goesTo_52 (by decide) ?_
              refine v_iast cx zl_52 (by decide) hb79.1 hb79.2 ⟨by decide, by decide⟩ d_M_goesTo_57 ?_
              refine v_ns (fun σ86 eσ86 => ?_)
              replace h := h σ86 eσ86
              refine v_iinc (lv' := [(0, .ref (ad 41)), (1, .int (zI to_)), (2, .int (zI kind)), (3, .int (zI (y47 + 1)))]) cx 3 d_M_goesTo_58 rfl (by decide) rfl rfl ?_
              refine v_goto cx 11 d_M_goesTo_61 (by decide) ?_
              obtain ⟨hI2, hz88, hm2⟩ := h
              exact ih11 _ _ (Nat.lt_of_lt_of_le hm2 (Nat.le_of_lt_succ hmm11)) hI2 hz88
          obtain ⟨hr89, h⟩ := h
          refine v_icmp_ne cx 35 d_M_goesTo_28 (by decide) hr89 hto_ (fun c90 => ?_) (fun c90 => ?_)
          · replace h := h.1 c90
            refine v_ldc cx ct_M_155 d_M_goesTo_35 ?_
            have hJ2 := h
            exact G37 _ hJ2 ⟨by decide, by decide⟩
          · replace h := h.2 c90
            refine v_iconst cx d_M_goesTo_31 ?_
            refine v_goto cx 37 d_M_goesTo_32 (by decide) ?_
            have hJ2 := h
            exact G37 _ hJ2 ⟨by decide, by decide⟩
    exact L11 _ _ _ (Nat.lt_succ_self _) h0 ⟨by decide, by decide⟩
def q_M_isWay (from_ : Int) (to_ : Int) (kind : Int) (K : Int → zS → Prop) (σ : zS) : Prop :=
  q_M_goesTo to_ kind (fun σ1 =>
    ∀ σ2 : zS, σ2 = zU σ1 41 20 1 → ∀ σ3 : zS, σ3 = zU σ2 54 0 from_ → ∃ (I24 : Int → Int → zS → Prop) (μ24 : Int → Int → zS → Nat), (I24 from_ (-1) σ3) ∧ ∀ (y4 y5 : Int) (σ6 : zS), I24 y4 y5 σ6 → zR y4 → zR y5 → 
    (y4 = to_ →
      K 1 σ6) ∧ (y4 ≠ to_ →
      ∃ (I44 : Int → Int → Int → Int → zS → Prop) (μ44 : Int → Int → Int → Int → zS → Nat), (I44 (-1) 1000000000 1000000000 0 σ6) ∧ ∀ (y8 y9 y10 y11 : Int) (σ12 : zS), I44 y8 y9 y10 y11 σ12 → zR y8 → zR y9 → zR y10 → zR y11 → 
      (8 ≤ y11 →
        (y8 ≠ (-1) →
          q_M_beside y4 y8 (fun r16 σ15 =>
            (0 ≤ σ15 41 20 ∧ σ15 41 20 < 700) ∧ (∀ σ19 : zS, σ19 = zU σ15 54 (σ15 41 20) r16 → zR ((σ19 41 20) + 1) ∧ (∀ σ22 : zS, σ22 = zU σ19 41 20 ((σ19 41 20) + 1) → I24 r16 y8 σ22 ∧ μ24 r16 y8 σ22 < μ24 y4 y5 σ6))) σ12) ∧ (y8 = (-1) →
          K 0 σ12)) ∧ (y11 < 8 →
        q_M_canStep y4 y11 (fun r24 σ23 =>
          (r24 = 0 →
            I44 y8 y9 y10 (y11 + 1) σ23 ∧ zR (y11 + 1) ∧ μ44 y8 y9 y10 (y11 + 1) σ23 < μ44 y8 y9 y10 y11 σ12) ∧ (r24 ≠ 0 →
            ∃ J84 : zS → Prop, (∀ (σ28 : zS), J84 σ28 → 
              q_M_beside y4 y11 (fun r30 σ29 =>
                (0 ≤ (8 * r30) + y11 ∧ (8 * r30) + y11 < 648) ∧ (((σ29 51 ((8 * r30) + y11)) ≠ 1000000000 →
                    q_M_stepOf y4 y11 kind (fun r36 σ35 =>
                      ∃ J157 : Int → zS → Prop, (∀ (w37 : Int) (σ38 : zS), J157 w37 σ38 → zR w37 → 
                        ∀ x39 : Int, x39 = ((σ29 51 ((8 * r30) + y11)) + r36) + w37 → ∀ x41 : Int, x41 = (σ38 52 ((8 * r30) + y11)) + 1 → (y8 = (-1) →
                          I44 y11 x39 x41 (y11 + 1) σ38 ∧ zR x39 ∧ zR x41 ∧ zR (y11 + 1) ∧ μ44 y11 x39 x41 (y11 + 1) σ38 < μ44 y8 y9 y10 y11 σ12) ∧ (y8 ≠ (-1) →
                          zR x39 ∧ ((y9 < x39 →
                              I44 y8 y9 y10 (y11 + 1) σ38 ∧ zR (y11 + 1) ∧ μ44 y8 y9 y10 (y11 + 1) σ38 < μ44 y8 y9 y10 y11 σ12) ∧ (x39 ≤ y9 →
                              (x39 ≠ y9 →
                                I44 y11 x39 x41 (y11 + 1) σ38 ∧ zR x41 ∧ zR (y11 + 1) ∧ μ44 y11 x39 x41 (y11 + 1) σ38 < μ44 y8 y9 y10 y11 σ12) ∧ (x39 = y9 →
                                zR x41 ∧ ((y10 < x41 →
                                    I44 y8 y9 y10 (y11 + 1) σ38 ∧ zR (y11 + 1) ∧ μ44 y8 y9 y10 (y11 + 1) σ38 < μ44 y8 y9 y10 y11 σ12) ∧ (x41 ≤ y10 →
                                    (x41 ≠ y10 →
                                      I44 y11 x39 x41 (y11 + 1) σ38 ∧ zR (y11 + 1) ∧ μ44 y11 x39 x41 (y11 + 1) σ38 < μ44 y8 y9 y10 y11 σ12) ∧ (x41 = y10 →
                                      q_M_beside y4 y8 (fun r63 σ62 =>
                                        (r30 ≤ r63 →
                                          I44 y11 x39 x41 (y11 + 1) σ62 ∧ zR (y11 + 1) ∧ μ44 y11 x39 x41 (y11 + 1) σ62 < μ44 y8 y9 y10 y11 σ12) ∧ (r63 < r30 →
                                          I44 y8 y9 y10 (y11 + 1) σ62 ∧ zR (y11 + 1) ∧ μ44 y8 y9 y10 (y11 + 1) σ62 < μ44 y8 y9 y10 y11 σ12)) σ38)))))))) ∧
                      ((y5 ≠ (-1) →
                          q_M_bendOf y5 y11 kind (fun r71 σ70 =>
                            J157 r71 σ70) σ35) ∧ (y5 = (-1) →
                          J157 0 σ35))) σ29) ∧ ((σ29 51 ((8 * r30) + y11)) = 1000000000 →
                    I44 y8 y9 y10 (y11 + 1) σ29 ∧ zR (y11 + 1) ∧ μ44 y8 y9 y10 (y11 + 1) σ29 < μ44 y8 y9 y10 y11 σ12))) σ28) ∧
            ((y5 = (-1) →
                J84 σ23) ∧ (y5 ≠ (-1) →
                q_M_canBend y4 y5 y11 (fun r76 σ75 =>
                  (r76 ≠ 0 →
                    J84 σ75) ∧ (r76 = 0 →
                    I44 y8 y9 y10 (y11 + 1) σ75 ∧ zR (y11 + 1) ∧ μ44 y8 y9 y10 (y11 + 1) σ75 < μ44 y8 y9 y10 y11 σ12)) σ23)))) σ12))) σ
abbrev rm_M_isWay : Room := { frames := 6, cells := 0, slots := 0, locals := 148 }
set_option maxRecDepth 20000 in
set_option maxHeartbeats 4000000 in
theorem s_M_isWay {Ω : zO} {ad : Nat → Nat} {from_ : Int} {to_ : Int} {kind : Int} {K : Int → zS → Prop} {σ : zS} (hfrom_ : zR from_) (hto_ : zR to_) (hkind : zR kind) (h : q_M_isWay from_ to_ kind K σ) : zMz Ω y_M_isWay (.code y_M_isWay c_M_isWay 13 (some .boolean)) rm_M_isWay zLy ad [.ref (ad 41), .int (zI from_), .int (zI to_), .int (zI kind)] σ K := by
  refine z_ofz (lv := [(0, .ref (ad 41)), (1, .int (zI from_)), (2, .int (zI to_)), (3, .int (zI kind))]) (by decide) rfl (Nat.le_of_ble_eq_true rfl) ?_
  intro Γ Q cx rt
  unfold q_M_isWay at h
  refine v_aload_n cx 0 d_M_isWay_0 rfl rfl ?_
  refine v_iload_n cx 2 d_M_isWay_1 rfl rfl ?_
  refine v_iload_n cx 3 d_M_isWay_2 rfl rfl ?_
  refine v_callVv0 (st := []) cx (s_M_goesTo hto_ hkind h) yk_M_goesTo lk_M_168 zl_41 rfl rfl rfl (Nat.le_of_ble_eq_true rfl) ⟨Nat.le_of_ble_eq_true rfl, Nat.le_of_ble_eq_true rfl⟩ ⟨rfl, rfl⟩ ⟨(Nat.le_of_ble_eq_true rfl), (Nat.le_of_ble_eq_true rfl)⟩ d_M_isWay_3 (fun σ1 h => ?_)
  refine v_aload_n cx 0 d_M_isWay_6 rfl rfl ?_
  refine v_iconst cx d_M_isWay_7 ?_
  refine pf_M_172 cx ⟨by decide, by decide⟩ d_M_isWay_8 ?_
  refine v_ns (fun σ2 eσ2 => ?_)
  replace h := h σ2 eσ2
  refine v_aload_n cx 0 d_M_isWay_11 rfl rfl ?_
  refine gf_M_50 cx d_M_isWay_12 ?_
  refine v_iconst cx d_M_isWay_15 ?_
  refine v_iload_n cx 1 d_M_isWay_16 rfl rfl ?_
  refine v_iast cx zl_54 (by decide) (by decide) (by decide) hfrom_ d_M_isWay_17 ?_
  refine v_ns (fun σ3 eσ3 => ?_)
  replace h := h σ3 eσ3
  refine v_iload_n cx 1 d_M_isWay_18 rfl rfl ?_
  refine v_istore (lv' := [(0, .ref (ad 41)), (1, .int (zI from_)), (2, .int (zI to_)), (3, .int (zI kind)), (4, .int (zI from_))]) cx d_M_isWay_19 (by decide) rfl rfl ?_
  refine v_iconst cx d_M_isWay_21 ?_
  refine v_istore (lv' := [(0, .ref (ad 41)), (1, .int (zI from_)), (2, .int (zI to_)), (3, .int (zI kind)), (4, .int (zI from_)), (5, .int (zI (-1)))]) cx d_M_isWay_22 (by decide) rfl rfl ?_
  refine v_sb (lv' := [(0, .ref (ad 41)), (2, .int (zI to_)), (3, .int (zI kind)), (4, .int (zI from_)), (5, .int (zI (-1)))]) [0, 2, 3, 4, 5] rfl ?_
  obtain ⟨I24, μ24, h0, h⟩ := h
  have L24 : ∀ (N24 : Nat) (y4 y5 : Int) (σ6 : zS), μ24 y4 y5 σ6 < N24 → I24 y4 y5 σ6 → zR y4 → zR y5 → zV Ω Γ rm_M_isWay 13 Q 0 0 zLy ad σ6 24 [(0, .ref (ad 41)), (2, .int (zI to_)), (3, .int (zI kind)), (4, .int (zI y4)), (5, .int (zI y5))] [] := by
    intro N24
    induction N24 with
    | zero => intro y4 y5 σ6 hm; exact absurd hm (Nat.not_lt_zero _)
    | succ N24 ih24 =>
      intro y4 y5 σ6 hmm24 hI hy4 hy5
      replace h := h y4 y5 σ6 hI hy4 hy5
      refine v_iload cx 3 d_M_isWay_24 rfl ?_
      refine v_iload_n cx 1 d_M_isWay_26 rfl rfl ?_
      refine v_icmp_eq cx 291 d_M_isWay_27 (by decide) hy4 hto_ (fun c7 => ?_) (fun c7 => ?_)
      · replace h := h.1 c7
        refine v_iconst cx d_M_isWay_291 ?_
        exact rt _ _ _ _ _ _ (Nat.le_of_ble_eq_true rfl) (Nat.le_of_ble_eq_true rfl) d_M_isWay_292 (Or.inr rfl) h
      · replace h := h.2 c7
        refine v_iconst cx d_M_isWay_30 ?_
        refine v_istore (lv' := [(0, .ref (ad 41)), (2, .int (zI to_)), (3, .int (zI kind)), (4, .int (zI y4)), (5, .int (zI y5)), (6, .int (zI (-1)))]) cx d_M_isWay_31 (by decide) rfl rfl ?_
        refine v_ldc cx ct_M_155 d_M_isWay_33 ?_
        refine v_istore (lv' := [(0, .ref (ad 41)), (2, .int (zI to_)), (3, .int (zI kind)), (4, .int (zI y4)), (5, .int (zI y5)), (6, .int (zI (-1))), (7, .int (zI 1000000000))]) cx d_M_isWay_35 (by decide) rfl rfl ?_
        refine v_ldc cx ct_M_155 d_M_isWay_37 ?_
        refine v_istore (lv' := [(0, .ref (ad 41)), (2, .int (zI to_)), (3, .int (zI kind)), (4, .int (zI y4)), (5, .int (zI y5)), (6, .int (zI (-1))), (7, .int (zI 1000000000)), (8, .int (zI 1000000000))]) cx d_M_isWay_39 (by decide) rfl rfl ?_
        refine v_iconst cx d_M_isWay_41 ?_
        refine v_istore (lv' := [(0, .ref (ad 41)), (2, .int (zI to_)), (3, .int (zI kind)), (4, .int (zI y4)), (5, .int (zI y5)), (6, .int (zI (-1))), (7, .int (zI 1000000000)), (8, .int (zI 1000000000)), (9, .int (zI 0))]) cx d_M_isWay_42 (by decide) rfl rfl ?_
        obtain ⟨I44, μ44, h0, h⟩ := h
        have L44 : ∀ (N44 : Nat) (y8 y9 y10 y11 : Int) (σ12 : zS), μ44 y8 y9 y10 y11 σ12 < N44 → I44 y8 y9 y10 y11 σ12 → zR y8 → zR y9 → zR y10 → zR y11 → zV Ω Γ rm_M_isWay 13 Q 0 0 zLy ad σ12 44 [(0, .ref (ad 41)), (2, .int (zI to_)), (3, .int (zI kind)), (4, .int (zI y4)), (5, .int (zI y5)), (6, .int (zI y8)), (7, .int (zI y9)), (8, .int (zI y10)), (9, .int (zI y11))] [] := by
          intro N44
          induction N44 with
          | zero => intro y8 y9 y10 y11 σ12 hm; exact absurd hm (Nat.not_lt_zero _)
          | succ N44 ih44 =>
            intro y8 y9 y10 y11 σ12 hmm44 hI hy8 hy9 hy10 hy11
            replace h := h y8 y9 y10 y11 σ12 hI hy8 hy9 hy10 hy11
            refine v_iload cx 8 d_M_isWay_44 rfl ?_
            refine v_bipush cx (by decide) d_M_isWay_46 ?_
            refine v_icmp_ge cx 245 d_M_isWay_48 (by decide) hy11 ⟨by decide, by decide⟩ (fun c13 => ?_) (fun c13 => ?_)
            · replace h := h.1 c13
              refine v_iload cx 5 d_M_isWay_245 rfl ?_
              refine v_iconst cx d_M_isWay_247 ?_
              refine v_icmp_ne cx 253 d_M_isWay_248 (by decide) hy8 ⟨by decide, by decide⟩ (fun c14 => ?_) (fun c14 => ?_)
              · replace h := h.1 c14
                refine v_aload_n cx 0 d_M_isWay_253 rfl rfl ?_
                refine v_iload cx 3 d_M_isWay_254 rfl ?_
                refine v_iload cx 5 d_M_isWay_256 rfl ?_
                refine v_callVi0 (st := []) cx (s_M_beside hy4 hy8 h) yk_M_beside lk_M_102 zl_41 rfl rfl rfl (Nat.le_of_ble_eq_true rfl) ⟨Nat.le_of_ble_eq_true rfl, Nat.le_of_ble_eq_true rfl⟩ ⟨rfl, rfl⟩ ⟨(Nat.le_of_ble_eq_true rfl), (Nat.le_of_ble_eq_true rfl)⟩ d_M_isWay_258 (fun r16 σ15 hr16 h => ?_)
                refine v_istore (lv' := [(0, .ref (ad 41)), (2, .int (zI to_)), (3, .int (zI kind)), (4, .int (zI r16)), (5, .int (zI y5)), (6, .int (zI y8)), (7, .int (zI y9)), (8, .int (zI y10)), (9, .int (zI y11))]) cx d_M_isWay_261 (by decide) rfl rfl ?_
                refine v_iload cx 5 d_M_isWay_263 rfl ?_
                refine v_istore (lv' := [(0, .ref (ad 41)), (2, .int (zI to_)), (3, .int (zI kind)), (4, .int (zI r16)), (5, .int (zI y8)), (6, .int (zI y8)), (7, .int (zI y9)), (8, .int (zI y10)), (9, .int (zI y11))]) cx d_M_isWay_265 (by decide) rfl rfl ?_
                refine v_aload_n cx 0 d_M_isWay_267 rfl rfl ?_
                refine gf_M_50 cx d_M_isWay_268 ?_
                refine v_aload_n cx 0 d_M_isWay_271 rfl rfl ?_
                refine gf_M_172 cx d_M_isWay_272 (fun hl17 => ?_)
                refine v_iload cx 3 d_M_isWay_275 rfl ?_
                obtain ⟨hb18, h⟩ := h
                refine v_iast cx zl_54 (by decide) hb18.1 hb18.2 hr16 d_M_isWay_277 ?_
                refine v_ns (fun σ19 eσ19 => ?_)
                replace h := h σ19 eσ19
                refine v_aload_n cx 0 d_M_isWay_278 rfl rfl ?_
                refine v_dup cx d_M_isWay_279 rfl ?_
                refine gf_M_172 cx d_M_isWay_280 (fun hl20 => ?_)
                refine v_iconst cx d_M_isWay_283 ?_
                refine v_iadd cx d_M_isWay_284 ?_
                obtain ⟨hr21, h⟩ := h
                refine pf_M_172 cx hr21 d_M_isWay_285 ?_
                refine v_ns (fun σ22 eσ22 => ?_)
                replace h := h σ22 eσ22
                refine v_goto cx 24 d_M_isWay_288 (by decide) ?_
                refine v_sb (lv' := [(0, .ref (ad 41)), (2, .int (zI to_)), (3, .int (zI kind)), (4, .int (zI r16)), (5, .int (zI y8))]) [0, 1, 2, 3, 4] rfl ?_
                obtain ⟨hI2, hm2⟩ := h
                exact ih24 _ _ _ (Nat.lt_of_lt_of_le hm2 (Nat.le_of_lt_succ hmm24)) hI2 hr16 hy8
              · replace h := h.2 c14
                refine v_iconst cx d_M_isWay_251 ?_
                exact rt _ _ _ _ _ _ (Nat.le_of_ble_eq_true rfl) (Nat.le_of_ble_eq_true rfl) d_M_isWay_252 (Or.inl rfl) h
            · replace h := h.2 c13
              refine v_aload_n cx 0 d_M_isWay_51 rfl rfl ?_
              refine v_iload cx 3 d_M_isWay_52 rfl ?_
              refine v_iload cx 8 d_M_isWay_54 rfl ?_
              refine v_callVz0 (st := []) cx (s_M_canStep hy4 hy11 h) yk_M_canStep lk_M_149 zl_41 rfl rfl rfl (Nat.le_of_ble_eq_true rfl) ⟨Nat.le_of_ble_eq_true rfl, Nat.le_of_ble_eq_true rfl⟩ ⟨rfl, rfl⟩ ⟨(Nat.le_of_ble_eq_true rfl), (Nat.le_of_ble_eq_true rfl)⟩ d_M_isWay_56 (fun r24 σ23 hr24 h => ?_)
              refine v_if_eq cx 239 d_M_isWay_59 (by decide) (zR_b hr24) (fun c25 => ?_) (fun c25 => ?_)
              · replace h := h.1 c25
                refine v_iinc (lv' := [(0, .ref (ad 41)), (2, .int (zI to_)), (3, .int (zI kind)), (4, .int (zI y4)), (5, .int (zI y5)), (6, .int (zI y8)), (7, .int (zI y9)), (8, .int (zI y10)), (9, .int (zI (y11 + 1)))]) cx 8 d_M_isWay_239 rfl (by decide) rfl rfl ?_
                refine v_goto cx 44 d_M_isWay_242 (by decide) ?_
                obtain ⟨hI2, hz27, hm2⟩ := h
                exact ih44 _ _ _ _ _ (Nat.lt_of_lt_of_le hm2 (Nat.le_of_lt_succ hmm44)) hI2 hy8 hy9 hy10 hz27
              · replace h := h.2 c25
                refine v_iload cx 4 d_M_isWay_62 rfl ?_
                refine v_iconst cx d_M_isWay_64 ?_
                obtain ⟨J84, hJ84, h⟩ := h
                have G84 : ∀ (σ28 : zS), J84 σ28 → zV Ω Γ rm_M_isWay 13 Q 0 0 zLy ad σ28 84 [(0, .ref (ad 41)), (2, .int (zI to_)), (3, .int (zI kind)), (4, .int (zI y4)), (5, .int (zI y5)), (6, .int (zI y8)), (7, .int (zI y9)), (8, .int (zI y10)), (9, .int (zI y11))] [] := by
                  intro σ28 hJ 
                  replace h := hJ84 σ28 hJ 
                  refine v_aload_n cx 0 d_M_isWay_84 rfl rfl ?_
                  refine v_iload cx 3 d_M_isWay_85 rfl ?_
                  refine v_iload cx 8 d_M_isWay_87 rfl ?_
                  refine v_callVi0 (st := []) cx (s_M_beside hy4 hy11 h) yk_M_beside lk_M_102 zl_41 rfl rfl rfl (Nat.le_of_ble_eq_true rfl) ⟨Nat.le_of_ble_eq_true rfl, Nat.le_of_ble_eq_true rfl⟩ ⟨rfl, rfl⟩ ⟨(Nat.le_of_ble_eq_true rfl), (Nat.le_of_ble_eq_true rfl)⟩ d_M_isWay_89 (fun r30 σ29 hr30 h => ?_)
                  refine v_istore (lv' := [(0, .ref (ad 41)), (2, .int (zI to_)), (3, .int (zI kind)), (4, .int (zI y4)), (5, .int (zI y5)), (6, .int (zI y8)), (7, .int (zI y9)), (8, .int (zI y10)), (9, .int (zI y11)), (10, .int (zI r30))]) cx d_M_isWay_92 (by decide) rfl rfl ?_
                  refine v_aload_n cx 0 d_M_isWay_94 rfl rfl ?_
                  refine gf_M_41 cx d_M_isWay_95 ?_
                  refine v_bipush cx (by decide) d_M_isWay_98 ?_
                  refine v_iload cx 9 d_M_isWay_100 rfl ?_
                  refine v_imul cx d_M_isWay_102 ?_
                  refine v_iload cx 8 d_M_isWay_103 rfl ?_
                  refine v_iadd cx d_M_isWay_105 ?_
                  obtain ⟨hb31, h⟩ := h
                  refine v_iald cx zl_51 (by decide) hb31.1 hb31.2 d_M_isWay_106 (fun hl32 => ?_)
                  refine v_ldc cx ct_M_155 d_M_isWay_107 ?_
                  refine v_icmp_ne cx 115 d_M_isWay_109 (by decide) hl32 ⟨by decide, by decide⟩ (fun c33 => ?_) (fun c33 => ?_)
                  · replace h := h.1 c33
                    refine v_aload_n cx 0 d_M_isWay_115 rfl rfl ?_
                    refine gf_M_41 cx d_M_isWay_116 ?_
                    refine v_bipush cx (by decide) d_M_isWay_119 ?_
                    refine v_iload cx 9 d_M_isWay_121 rfl ?_
                    refine v_imul cx d_M_isWay_123 ?_
                    refine v_iload cx 8 d_M_isWay_124 rfl ?_
                    refine v_iadd cx d_M_isWay_126 ?_
                    refine v_iald cx zl_51 (by decide) hb31.1 hb31.2 d_M_isWay_127 (fun hl34 => ?_)
                    refine v_aload_n cx 0 d_M_isWay_128 rfl rfl ?_
                    refine v_iload cx 3 d_M_isWay_129 rfl ?_
                    refine v_iload cx 8 d_M_isWay_131 rfl ?_
                    refine v_iload_n cx 2 d_M_isWay_133 rfl rfl ?_
                    refine v_callVi0 (st := [.int (zI (σ29 51 ((8 * r30) + y11)))]) cx (s_M_stepOf hy4 hy11 hkind h) yk_M_stepOf lk_M_139 zl_41 rfl rfl rfl (Nat.le_of_ble_eq_true rfl) ⟨Nat.le_of_ble_eq_true rfl, Nat.le_of_ble_eq_true rfl⟩ ⟨rfl, rfl⟩ ⟨(Nat.le_of_ble_eq_true rfl), (Nat.le_of_ble_eq_true rfl)⟩ d_M_isWay_134 (fun r36 σ35 hr36 h => ?_)
                    refine v_iadd cx d_M_isWay_137 ?_
                    refine v_iload cx 4 d_M_isWay_138 rfl ?_
                    refine v_iconst cx d_M_isWay_140 ?_
                    obtain ⟨J157, hJ157, h⟩ := h
                    have G157 : ∀ (w37 : Int) (σ38 : zS), J157 w37 σ38 → zR w37 → zV Ω Γ rm_M_isWay 13 Q 0 0 zLy ad σ38 157 [(0, .ref (ad 41)), (2, .int (zI to_)), (3, .int (zI kind)), (4, .int (zI y4)), (5, .int (zI y5)), (6, .int (zI y8)), (7, .int (zI y9)), (8, .int (zI y10)), (9, .int (zI y11)), (10, .int (zI r30))] [.int (zI w37), .int (zI ((σ29 51 ((8 * r30) + y11)) + r36))] := by
                      intro w37 σ38 hJ hw37
                      replace h := hJ157 w37 σ38 hJ hw37
                      refine v_iadd cx d_M_isWay_157 ?_
                      refine v_nm (fun x39 ex39 => ?_)
                      replace h := h x39 ex39
                      refine v_istore (lv' := [(0, .ref (ad 41)), (2, .int (zI to_)), (3, .int (zI kind)), (4, .int (zI y4)), (5, .int (zI y5)), (6, .int (zI y8)), (7, .int (zI y9)), (8, .int (zI y10)), (9, .int (zI y11)), (10, .int (zI r30)), (11, .int (zI x39))]) cx d_M_isWay_158 (by decide) rfl rfl ?_
                      refine v_aload_n cx 0 d_M_isWay_160 rfl rfl ?_
                      refine gf_M_44 cx d_M_isWay_161 ?_
                      refine v_bipush cx (by decide) d_M_isWay_164 ?_
                      refine v_iload cx 9 d_M_isWay_166 rfl ?_
                      refine v_imul cx d_M_isWay_168 ?_
                      refine v_iload cx 8 d_M_isWay_169 rfl ?_
                      refine v_iadd cx d_M_isWay_171 ?_
                      refine v_iald cx zl_52 (by decide) hb31.1 hb31.2 d_M_isWay_172 (fun hl40 => ?_)
                      refine v_iconst cx d_M_isWay_173 ?_
                      refine v_iadd cx d_M_isWay_174 ?_
                      refine v_nm (fun x41 ex41 => ?_)
                      replace h := h x41 ex41
                      refine v_istore (lv' := [(0, .ref (ad 41)), (2, .int (zI to_)), (3, .int (zI kind)), (4, .int (zI y4)), (5, .int (zI y5)), (6, .int (zI y8)), (7, .int (zI y9)), (8, .int (zI y10)), (9, .int (zI y11)), (10, .int (zI r30)), (11, .int (zI x39)), (12, .int (zI x41))]) cx d_M_isWay_175 (by decide) rfl rfl ?_
                      refine v_iload cx 5 d_M_isWay_177 rfl ?_
                      refine v_iconst cx d_M_isWay_179 ?_
                      refine v_icmp_eq cx 227 d_M_isWay_180 (by decide) hy8 ⟨by decide, by decide⟩ (fun c42 => ?_) (fun c42 => ?_)
                      · replace h := h.1 c42
                        refine v_iload cx 8 d_M_isWay_227 rfl ?_
                        refine v_istore (lv' := [(0, .ref (ad 41)), (2, .int (zI to_)), (3, .int (zI kind)), (4, .int (zI y4)), (5, .int (zI y5)), (6, .int (zI y11)), (7, .int (zI y9)), (8, .int (zI y10)), (9, .int (zI y11)), (10, .int (zI r30)), (11, .int (zI x39)), (12, .int (zI x41))]) cx d_M_isWay_229 (by decide) rfl rfl ?_
                        refine v_iload cx 10 d_M_isWay_231 rfl ?_
                        refine v_istore (lv' := [(0, .ref (ad 41)), (2, .int (zI to_)), (3, .int (zI kind)), (4, .int (zI y4)), (5, .int (zI y5)), (6, .int (zI y11)), (7, .int (zI x39)), (8, .int (zI y10)), (9, .int (zI y11)), (10, .int (zI r30)), (11, .int (zI x39)), (12, .int (zI x41))]) cx d_M_isWay_233 (by decide) rfl rfl ?_
                        refine v_iload cx 11 d_M_isWay_235 rfl ?_
                        refine v_istore (lv' := [(0, .ref (ad 41)), (2, .int (zI to_)), (3, .int (zI kind)), (4, .int (zI y4)), (5, .int (zI y5)), (6, .int (zI y11)), (7, .int (zI x39)), (8, .int (zI x41)), (9, .int (zI y11)), (10, .int (zI r30)), (11, .int (zI x39)), (12, .int (zI x41))]) cx d_M_isWay_237 (by decide) rfl rfl ?_
                        refine v_iinc (lv' := [(0, .ref (ad 41)), (2, .int (zI to_)), (3, .int (zI kind)), (4, .int (zI y4)), (5, .int (zI y5)), (6, .int (zI y11)), (7, .int (zI x39)), (8, .int (zI x41)), (9, .int (zI (y11 + 1))), (10, .int (zI r30)), (11, .int (zI x39)), (12, .int (zI x41))]) cx 8 d_M_isWay_239 rfl (by decide) rfl rfl ?_
                        refine v_goto cx 44 d_M_isWay_242 (by decide) ?_
                        refine v_sb (lv' := [(0, .ref (ad 41)), (2, .int (zI to_)), (3, .int (zI kind)), (4, .int (zI y4)), (5, .int (zI y5)), (6, .int (zI y11)), (7, .int (zI x39)), (8, .int (zI x41)), (9, .int (zI (y11 + 1)))]) [0, 1, 2, 3, 4, 5, 6, 7, 8] rfl ?_
                        obtain ⟨hI2, hz44, hz45, hz46, hm2⟩ := h
                        exact ih44 _ _ _ _ _ (Nat.lt_of_lt_of_le hm2 (Nat.le_of_lt_succ hmm44)) hI2 hy11 hz44 hz45 hz46
                      · replace h := h.2 c42
                        refine v_iload cx 10 d_M_isWay_183 rfl ?_
                        refine v_iload cx 6 d_M_isWay_185 rfl ?_
                        obtain ⟨hr47, h⟩ := h
                        refine v_icmp_gt cx 239 d_M_isWay_187 (by decide) hr47 hy9 (fun c48 => ?_) (fun c48 => ?_)
                        · replace h := h.1 c48
                          refine v_iinc (lv' := [(0, .ref (ad 41)), (2, .int (zI to_)), (3, .int (zI kind)), (4, .int (zI y4)), (5, .int (zI y5)), (6, .int (zI y8)), (7, .int (zI y9)), (8, .int (zI y10)), (9, .int (zI (y11 + 1))), (10, .int (zI r30)), (11, .int (zI x39)), (12, .int (zI x41))]) cx 8 d_M_isWay_239 rfl (by decide) rfl rfl ?_
                          refine v_goto cx 44 d_M_isWay_242 (by decide) ?_
                          refine v_sb (lv' := [(0, .ref (ad 41)), (2, .int (zI to_)), (3, .int (zI kind)), (4, .int (zI y4)), (5, .int (zI y5)), (6, .int (zI y8)), (7, .int (zI y9)), (8, .int (zI y10)), (9, .int (zI (y11 + 1)))]) [0, 1, 2, 3, 4, 5, 6, 7, 8] rfl ?_
                          obtain ⟨hI2, hz50, hm2⟩ := h
                          exact ih44 _ _ _ _ _ (Nat.lt_of_lt_of_le hm2 (Nat.le_of_lt_succ hmm44)) hI2 hy8 hy9 hy10 hz50
                        · replace h := h.2 c48
                          refine v_iload cx 10 d_M_isWay_190 rfl ?_
                          refine v_iload cx 6 d_M_isWay_192 rfl ?_
                          refine v_icmp_ne cx 227 d_M_isWay_194 (by decide) hr47 hy9 (fun c51 => ?_) (fun c51 => ?_)
                          · replace h := h.1 c51
                            refine v_iload cx 8 d_M_isWay_227 rfl ?_
                            refine v_istore (lv' := [(0, .ref (ad 41)), (2, .int (zI to_)), (3, .int (zI kind)), (4, .int (zI y4)), (5, .int (zI y5)), (6, .int (zI y11)), (7, .int (zI y9)), (8, .int (zI y10)), (9, .int (zI y11)), (10, .int (zI r30)), (11, .int (zI x39)), (12, .int (zI x41))]) cx d_M_isWay_229 (by decide) rfl rfl ?_
                            refine v_iload cx 10 d_M_isWay_231 rfl ?_
                            refine v_istore (lv' := [(0, .ref (ad 41)), (2, .int (zI to_)), (3, .int (zI kind)), (4, .int (zI y4)), (5, .int (zI y5)), (6, .int (zI y11)), (7, .int (zI x39)), (8, .int (zI y10)), (9, .int (zI y11)), (10, .int (zI r30)), (11, .int (zI x39)), (12, .int (zI x41))]) cx d_M_isWay_233 (by decide) rfl rfl ?_
                            refine v_iload cx 11 d_M_isWay_235 rfl ?_
                            refine v_istore (lv' := [(0, .ref (ad 41)), (2, .int (zI to_)), (3, .int (zI kind)), (4, .int (zI y4)), (5, .int (zI y5)), (6, .int (zI y11)), (7, .int (zI x39)), (8, .int (zI x41)), (9, .int (zI y11)), (10, .int (zI r30)), (11, .int (zI x39)), (12, .int (zI x41))]) cx d_M_isWay_237 (by decide) rfl rfl ?_
                            refine v_iinc (lv' := [(0, .ref (ad 41)), (2, .int (zI to_)), (3, .int (zI kind)), (4, .int (zI y4)), (5, .int (zI y5)), (6, .int (zI y11)), (7, .int (zI x39)), (8, .int (zI x41)), (9, .int (zI (y11 + 1))), (10, .int (zI r30)), (11, .int (zI x39)), (12, .int (zI x41))]) cx 8 d_M_isWay_239 rfl (by decide) rfl rfl ?_
                            refine v_goto cx 44 d_M_isWay_242 (by decide) ?_
                            refine v_sb (lv' := [(0, .ref (ad 41)), (2, .int (zI to_)), (3, .int (zI kind)), (4, .int (zI y4)), (5, .int (zI y5)), (6, .int (zI y11)), (7, .int (zI x39)), (8, .int (zI x41)), (9, .int (zI (y11 + 1)))]) [0, 1, 2, 3, 4, 5, 6, 7, 8] rfl ?_
                            obtain ⟨hI2, hz53, hz54, hm2⟩ := h
                            exact ih44 _ _ _ _ _ (Nat.lt_of_lt_of_le hm2 (Nat.le_of_lt_succ hmm44)) hI2 hy11 hr47 hz53 hz54
                          · replace h := h.2 c51
                            refine v_iload cx 11 d_M_isWay_197 rfl ?_
                            refine v_iload cx 7 d_M_isWay_199 rfl ?_
                            obtain ⟨hr55, h⟩ := h
                            refine v_icmp_gt cx 239 d_M_isWay_201 (by decide) hr55 hy10 (fun c56 => ?_) (fun c56 => ?_)
                            · replace h := h.1 c56
                              refine v_iinc (lv' := [(0, .ref (ad 41)), (2, .int (zI to_)), (3, .int (zI kind)), (4, .int (zI y4)), (5, .int (zI y5)), (6, .int (zI y8)), (7, .int (zI y9)), (8, .int (zI y10)), (9, .int (zI (y11 + 1))), (10, .int (zI r30)), (11, .int (zI x39)), (12, .int (zI x41))]) cx 8 d_M_isWay_239 rfl (by decide) rfl rfl ?_
                              refine v_goto cx 44 d_M_isWay_242 (by decide) ?_
                              refine v_sb (lv' := [(0, .ref (ad 41)), (2, .int (zI to_)), (3, .int (zI kind)), (4, .int (zI y4)), (5, .int (zI y5)), (6, .int (zI y8)), (7, .int (zI y9)), (8, .int (zI y10)), (9, .int (zI (y11 + 1)))]) [0, 1, 2, 3, 4, 5, 6, 7, 8] rfl ?_
                              obtain ⟨hI2, hz58, hm2⟩ := h
                              exact ih44 _ _ _ _ _ (Nat.lt_of_lt_of_le hm2 (Nat.le_of_lt_succ hmm44)) hI2 hy8 hy9 hy10 hz58
                            · replace h := h.2 c56
                              refine v_iload cx 11 d_M_isWay_204 rfl ?_
                              refine v_iload cx 7 d_M_isWay_206 rfl ?_
                              refine v_icmp_ne cx 227 d_M_isWay_208 (by decide) hr55 hy10 (fun c59 => ?_) (fun c59 => ?_)
                              · replace h := h.1 c59
                                refine v_iload cx 8 d_M_isWay_227 rfl ?_
                                refine v_istore (lv' := [(0, .ref (ad 41)), (2, .int (zI to_)), (3, .int (zI kind)), (4, .int (zI y4)), (5, .int (zI y5)), (6, .int (zI y11)), (7, .int (zI y9)), (8, .int (zI y10)), (9, .int (zI y11)), (10, .int (zI r30)), (11, .int (zI x39)), (12, .int (zI x41))]) cx d_M_isWay_229 (by decide) rfl rfl ?_
                                refine v_iload cx 10 d_M_isWay_231 rfl ?_
                                refine v_istore (lv' := [(0, .ref (ad 41)), (2, .int (zI to_)), (3, .int (zI kind)), (4, .int (zI y4)), (5, .int (zI y5)), (6, .int (zI y11)), (7, .int (zI x39)), (8, .int (zI y10)), (9, .int (zI y11)), (10, .int (zI r30)), (11, .int (zI x39)), (12, .int (zI x41))]) cx d_M_isWay_233 (by decide) rfl rfl ?_
                                refine v_iload cx 11 d_M_isWay_235 rfl ?_
                                refine v_istore (lv' := [(0, .ref (ad 41)), (2, .int (zI to_)), (3, .int (zI kind)), (4, .int (zI y4)), (5, .int (zI y5)), (6, .int (zI y11)), (7, .int (zI x39)), (8, .int (zI x41)), (9, .int (zI y11)), (10, .int (zI r30)), (11, .int (zI x39)), (12, .int (zI x41))]) cx d_M_isWay_237 (by decide) rfl rfl ?_
                                refine v_iinc (lv' := [(0, .ref (ad 41)), (2, .int (zI to_)), (3, .int (zI kind)), (4, .int (zI y4)), (5, .int (zI y5)), (6, .int (zI y11)), (7, .int (zI x39)), (8, .int (zI x41)), (9, .int (zI (y11 + 1))), (10, .int (zI r30)), (11, .int (zI x39)), (12, .int (zI x41))]) cx 8 d_M_isWay_239 rfl (by decide) rfl rfl ?_
                                refine v_goto cx 44 d_M_isWay_242 (by decide) ?_
                                refine v_sb (lv' := [(0, .ref (ad 41)), (2, .int (zI to_)), (3, .int (zI kind)), (4, .int (zI y4)), (5, .int (zI y5)), (6, .int (zI y11)), (7, .int (zI x39)), (8, .int (zI x41)), (9, .int (zI (y11 + 1)))]) [0, 1, 2, 3, 4, 5, 6, 7, 8] rfl ?_
                                obtain ⟨hI2, hz61, hm2⟩ := h
                                exact ih44 _ _ _ _ _ (Nat.lt_of_lt_of_le hm2 (Nat.le_of_lt_succ hmm44)) hI2 hy11 hr47 hr55 hz61
                              · replace h := h.2 c59
                                refine v_iload cx 9 d_M_isWay_211 rfl ?_
                                refine v_aload_n cx 0 d_M_isWay_213 rfl rfl ?_
                                refine v_iload cx 3 d_M_isWay_214 rfl ?_
                                refine v_iload cx 5 d_M_isWay_216 rfl ?_
                                refine v_callVi0 (st := [.int (zI r30)]) cx (s_M_beside hy4 hy8 h) yk_M_beside lk_M_102 zl_41 rfl rfl rfl (Nat.le_of_ble_eq_true rfl) ⟨Nat.le_of_ble_eq_true rfl, Nat.le_of_ble_eq_true rfl⟩ ⟨rfl, rfl⟩ ⟨(Nat.le_of_ble_eq_true rfl), (Nat.le_of_ble_eq_true rfl)⟩ d_M_isWay_218 (fun r63 σ62 hr63 h => ?_)
                                refine v_icmp_le cx 227 d_M_isWay_221 (by decide) hr30 hr63 (fun c64 => ?_) (fun c64 => ?_)
                                · replace h := h.1 c64
                                  refine v_iload cx 8 d_M_isWay_227 rfl ?_
                                  refine v_istore (lv' := [(0, .ref (ad 41)), (2, .int (zI to_)), (3, .int (zI kind)), (4, .int (zI y4)), (5, .int (zI y5)), (6, .int (zI y11)), (7, .int (zI y9)), (8, .int (zI y10)), (9, .int (zI y11)), (10, .int (zI r30)), (11, .int (zI x39)), (12, .int (zI x41))]) cx d_M_isWay_229 (by decide) rfl rfl ?_
                                  refine v_iload cx 10 d_M_isWay_231 rfl ?_
                                  refine v_istore (lv' := [(0, .ref (ad 41)), (2, .int (zI to_)), (3, .int (zI kind)), (4, .int (zI y4)), (5, .int (zI y5)), (6, .int (zI y11)), (7, .int (zI x39)), (8, .int (zI y10)), (9, .int (zI y11)), (10, .int (zI r30)), (11, .int (zI x39)), (12, .int (zI x41))]) cx d_M_isWay_233 (by decide) rfl rfl ?_
                                  refine v_iload cx 11 d_M_isWay_235 rfl ?_
                                  refine v_istore (lv' := [(0, .ref (ad 41)), (2, .int (zI to_)), (3, .int (zI kind)), (4, .int (zI y4)), (5, .int (zI y5)), (6, .int (zI y11)), (7, .int (zI x39)), (8, .int (zI x41)), (9, .int (zI y11)), (10, .int (zI r30)), (11, .int (zI x39)), (12, .int (zI x41))]) cx d_M_isWay_237 (by decide) rfl rfl ?_
                                  refine v_iinc (lv' := [(0, .ref (ad 41)), (2, .int (zI to_)), (3, .int (zI kind)), (4, .int (zI y4)), (5, .int (zI y5)), (6, .int (zI y11)), (7, .int (zI x39)), (8, .int (zI x41)), (9, .int (zI (y11 + 1))), (10, .int (zI r30)), (11, .int (zI x39)), (12, .int (zI x41))]) cx 8 d_M_isWay_239 rfl (by decide) rfl rfl ?_
                                  refine v_goto cx 44 d_M_isWay_242 (by decide) ?_
                                  refine v_sb (lv' := [(0, .ref (ad 41)), (2, .int (zI to_)), (3, .int (zI kind)), (4, .int (zI y4)), (5, .int (zI y5)), (6, .int (zI y11)), (7, .int (zI x39)), (8, .int (zI x41)), (9, .int (zI (y11 + 1)))]) [0, 1, 2, 3, 4, 5, 6, 7, 8] rfl ?_
                                  obtain ⟨hI2, hz66, hm2⟩ := h
                                  exact ih44 _ _ _ _ _ (Nat.lt_of_lt_of_le hm2 (Nat.le_of_lt_succ hmm44)) hI2 hy11 hr47 hr55 hz66
                                · replace h := h.2 c64
                                  refine v_goto cx 239 d_M_isWay_224 (by decide) ?_
                                  refine v_iinc (lv' := [(0, .ref (ad 41)), (2, .int (zI to_)), (3, .int (zI kind)), (4, .int (zI y4)), (5, .int (zI y5)), (6, .int (zI y8)), (7, .int (zI y9)), (8, .int (zI y10)), (9, .int (zI (y11 + 1))), (10, .int (zI r30)), (11, .int (zI x39)), (12, .int (zI x41))]) cx 8 d_M_isWay_239 rfl (by decide) rfl rfl ?_
                                  refine v_goto cx 44 d_M_isWay_242 (by decide) ?_
                                  refine v_sb (lv' := [(0, .ref (ad 41)), (2, .int (zI to_)), (3, .int (zI kind)), (4, .int (zI y4)), (5, .int (zI y5)), (6, .int (zI y8)), (7, .int (zI y9)), (8, .int (zI y10)), (9, .int (zI (y11 + 1)))]) [0, 1, 2, 3, 4, 5, 6, 7, 8] rfl ?_
                                  obtain ⟨hI2, hz68, hm2⟩ := h
                                  exact ih44 _ _ _ _ _ (Nat.lt_of_lt_of_le hm2 (Nat.le_of_lt_succ hmm44)) hI2 hy8 hy9 hy10 hz68
                    refine v_icmp_ne cx 148 d_M_isWay_141 (by decide) hy5 ⟨by decide, by decide⟩ (fun c69 => ?_) (fun c69 => ?_)
                    · replace h := h.1 c69
                      refine v_aload_n cx 0 d_M_isWay_148 rfl rfl ?_
                      refine v_iload cx 4 d_M_isWay_149 rfl ?_
                      refine v_iload cx 8 d_M_isWay_151 rfl ?_
                      refine v_iload_n cx 2 d_M_isWay_153 rfl rfl ?_
                      refine v_callVi0 (st := [.int (zI ((σ29 51 ((8 * r30) + y11)) + r36))]) cx (s_M_bendOf hy5 hy11 hkind h) yk_M_bendOf lk_M_156 zl_41 rfl rfl rfl (Nat.le_of_ble_eq_true rfl) ⟨Nat.le_of_ble_eq_true rfl, Nat.le_of_ble_eq_true rfl⟩ ⟨rfl, rfl⟩ ⟨(Nat.le_of_ble_eq_true rfl), (Nat.le_of_ble_eq_true rfl)⟩ d_M_isWay_154 (fun r71 σ70 hr71 h => ?_)
                      have hJ2 := h
                      exact G157 _ _ hJ2 hr71
                    · replace h := h.2 c69
                      refine v_iconst cx d_M_isWay_144 ?_
                      refine v_goto cx 157 d_M_isWay_145 (by decide) ?_
                      have hJ2 := h
                      exact G157 _ _ hJ2 ⟨by decide, by decide⟩
                  · replace h := h.2 c33
                    refine v_goto cx 239 d_M_isWay_112 (by decide) ?_
                    refine v_iinc (lv' := [(0, .ref (ad 41)), (2, .int (zI to_)), (3, .int (zI kind)), (4, .int (zI y4)), (5, .int (zI y5)), (6, .int (zI y8)), (7, .int (zI y9)), (8, .int (zI y10)), (9, .int (zI (y11 + 1))), (10, .int (zI r30))]) cx 8 d_M_isWay_239 rfl (by decide) rfl rfl ?_
                    refine v_goto cx 44 d_M_isWay_242 (by decide) ?_
                    refine v_sb (lv' := [(0, .ref (ad 41)), (2, .int (zI to_)), (3, .int (zI kind)), (4, .int (zI y4)), (5, .int (zI y5)), (6, .int (zI y8)), (7, .int (zI y9)), (8, .int (zI y10)), (9, .int (zI (y11 + 1)))]) [0, 1, 2, 3, 4, 5, 6, 7, 8] rfl ?_
                    obtain ⟨hI2, hz73, hm2⟩ := h
                    exact ih44 _ _ _ _ _ (Nat.lt_of_lt_of_le hm2 (Nat.le_of_lt_succ hmm44)) hI2 hy8 hy9 hy10 hz73
                refine v_icmp_eq cx 84 d_M_isWay_65 (by decide) hy5 ⟨by decide, by decide⟩ (fun c74 => ?_) (fun c74 => ?_)
                · replace h := h.1 c74
                  have hJ2 := h
                  exact G84 _ hJ2 
                · replace h := h.2 c74
                  refine v_aload_n cx 0 d_M_isWay_68 rfl rfl ?_
                  refine v_iload cx 3 d_M_isWay_69 rfl ?_
                  refine v_iload cx 4 d_M_isWay_71 rfl ?_
                  refine v_iload cx 8 d_M_isWay_73 rfl ?_
                  refine v_callVz0 (st := []) cx (s_M_canBend hy4 hy5 hy11 h) yk_M_canBend lk_M_152 zl_41 rfl rfl rfl (Nat.le_of_ble_eq_true rfl) ⟨Nat.le_of_ble_eq_true rfl, Nat.le_of_ble_eq_true rfl⟩ ⟨rfl, rfl⟩ ⟨(Nat.le_of_ble_eq_true rfl), (Nat.le_of_ble_eq_true rfl)⟩ d_M_isWay_75 (fun r76 σ75 hr76 h => ?_)
                  refine v_if_ne cx 84 d_M_isWay_78 (by decide) (zR_b hr76) (fun c77 => ?_) (fun c77 => ?_)
                  · replace h := h.1 c77
                    have hJ2 := h
                    exact G84 _ hJ2 
                  · replace h := h.2 c77
                    refine v_goto cx 239 d_M_isWay_81 (by decide) ?_
                    refine v_iinc (lv' := [(0, .ref (ad 41)), (2, .int (zI to_)), (3, .int (zI kind)), (4, .int (zI y4)), (5, .int (zI y5)), (6, .int (zI y8)), (7, .int (zI y9)), (8, .int (zI y10)), (9, .int (zI (y11 + 1)))]) cx 8 d_M_isWay_239 rfl (by decide) rfl rfl ?_
                    refine v_goto cx 44 d_M_isWay_242 (by decide) ?_
                    obtain ⟨hI2, hz79, hm2⟩ := h
                    exact ih44 _ _ _ _ _ (Nat.lt_of_lt_of_le hm2 (Nat.le_of_lt_succ hmm44)) hI2 hy8 hy9 hy10 hz79
        exact L44 _ _ _ _ _ _ (Nat.lt_succ_self _) h0 ⟨by decide, by decide⟩ ⟨by decide, by decide⟩ ⟨by decide, by decide⟩ ⟨by decide, by decide⟩
  exact L24 _ _ _ _ (Nat.lt_succ_self _) h0 hfrom_ ⟨by decide, by decide⟩
def q_M_headingOf (rowsMore : Int) (placesMore : Int) (K : Int → zS → Prop) (σ : zS) : Prop :=
  (0 ≤ rowsMore →
    (rowsMore ≠ 0 →
      zR (4 - placesMore) ∧ (K (4 - placesMore) σ)) ∧ (rowsMore = 0 →
      (0 ≤ placesMore →
        K 2 σ) ∧ (placesMore < 0 →
        K 6 σ))) ∧ (rowsMore < 0 →
    (0 ≤ placesMore →
      K placesMore σ) ∧ (placesMore < 0 →
      K 7 σ))
abbrev rm_M_headingOf : Room := { frames := 0, cells := 0, slots := 0, locals := 0 }
set_option maxRecDepth 20000 in
set_option maxHeartbeats 4000000 in
theorem s_M_headingOf {Ω : zO} {ad : Nat → Nat} {rowsMore : Int} {placesMore : Int} {K : Int → zS → Prop} {σ : zS} (hrowsMore : zR rowsMore) (hplacesMore : zR placesMore) (h : q_M_headingOf rowsMore placesMore K σ) : zMi Ω y_M_headingOf (.code y_M_headingOf c_M_headingOf 2 (some .int)) rm_M_headingOf zLy ad [.int (zI rowsMore), .int (zI placesMore)] σ K := by
  refine z_ofi (lv := [(0, .int (zI rowsMore)), (1, .int (zI placesMore))]) (by decide) rfl (Nat.le_of_ble_eq_true rfl) ?_
  intro Γ Q cx rt
  unfold q_M_headingOf at h
  refine v_iload_n cx 0 d_M_headingOf_0 rfl rfl ?_
  refine v_if_ge cx 15 d_M_headingOf_1 (by decide) hrowsMore (fun c1 => ?_) (fun c1 => ?_)
  · replace h := h.1 c1
    refine v_iload_n cx 0 d_M_headingOf_15 rfl rfl ?_
    refine v_if_ne cx 30 d_M_headingOf_16 (by decide) hrowsMore (fun c2 => ?_) (fun c2 => ?_)
    · replace h := h.1 c2
      refine v_iconst cx d_M_headingOf_30 ?_
      refine v_iload_n cx 1 d_M_headingOf_31 rfl rfl ?_
      refine v_isub cx d_M_headingOf_32 ?_
      obtain ⟨hr3, h⟩ := h
      exact rt _ _ _ _ _ _ (Nat.le_of_ble_eq_true rfl) (Nat.le_of_ble_eq_true rfl) d_M_headingOf_33 hr3 h
    · replace h := h.2 c2
      refine v_iload_n cx 1 d_M_headingOf_19 rfl rfl ?_
      refine v_if_ge cx 28 d_M_headingOf_20 (by decide) hplacesMore (fun c4 => ?_) (fun c4 => ?_)
      · replace h := h.1 c4
        refine v_iconst cx d_M_headingOf_28 ?_
        exact rt _ _ _ _ _ _ (Nat.le_of_ble_eq_true rfl) (Nat.le_of_ble_eq_true rfl) d_M_headingOf_29 ⟨by decide, by decide⟩ h
      · replace h := h.2 c4
        refine v_bipush cx (by decide) d_M_headingOf_23 ?_
        refine v_goto cx 29 d_M_headingOf_25 (by decide) ?_
        exact rt _ _ _ _ _ _ (Nat.le_of_ble_eq_true rfl) (Nat.le_of_ble_eq_true rfl) d_M_headingOf_29 ⟨by decide, by decide⟩ h
  · replace h := h.2 c1
    refine v_iload_n cx 1 d_M_headingOf_4 rfl rfl ?_
    refine v_if_ge cx 13 d_M_headingOf_5 (by decide) hplacesMore (fun c5 => ?_) (fun c5 => ?_)
    · replace h := h.1 c5
      refine v_iload_n cx 1 d_M_headingOf_13 rfl rfl ?_
      exact rt _ _ _ _ _ _ (Nat.le_of_ble_eq_true rfl) (Nat.le_of_ble_eq_true rfl) d_M_headingOf_14 hplacesMore h
    · replace h := h.2 c5
      refine v_bipush cx (by decide) d_M_headingOf_8 ?_
      refine v_goto cx 14 d_M_headingOf_10 (by decide) ?_
      exact rt _ _ _ _ _ _ (Nat.le_of_ble_eq_true rfl) (Nat.le_of_ble_eq_true rfl) d_M_headingOf_14 ⟨by decide, by decide⟩ h
def q_M_heading (p : Int) (q : Int) (K : Int → zS → Prop) (σ : zS) : Prop :=
  (σ 42 0) ≠ 0 ∧ ((σ 42 0) ≠ -1 ∧ ((σ 42 0) ≠ 0 ∧ ((σ 42 0) ≠ -1 ∧ ((σ 42 0) ≠ 0 ∧ ((σ 42 0) ≠ 0 ∧ (zR ((Int.tdiv q (σ 42 0)) - (Int.tdiv p (σ 42 0))) ∧ (zR ((Int.tmod q (σ 42 0)) - (Int.tmod p (σ 42 0))) ∧ (q_M_headingOf ((Int.tdiv q (σ 42 0)) - (Int.tdiv p (σ 42 0))) ((Int.tmod q (σ 42 0)) - (Int.tmod p (σ 42 0))) (fun r14 σ13 =>
                    K r14 σ13) σ))))))))
abbrev rm_M_heading : Room := { frames := 1, cells := 0, slots := 0, locals := 21 }
set_option maxRecDepth 20000 in
set_option maxHeartbeats 4000000 in
theorem s_M_heading {Ω : zO} {ad : Nat → Nat} {p : Int} {q : Int} {K : Int → zS → Prop} {σ : zS} (hp : zR p) (hq : zR q) (h : q_M_heading p q K σ) : zMi Ω y_M_heading (.code y_M_heading c_M_heading 3 (some .int)) rm_M_heading zLy ad [.ref (ad 41), .int (zI p), .int (zI q)] σ K := by
  refine z_ofi (lv := [(0, .ref (ad 41)), (1, .int (zI p)), (2, .int (zI q))]) (by decide) rfl (Nat.le_of_ble_eq_true rfl) ?_
  intro Γ Q cx rt
  unfold q_M_heading at h
  refine v_iload_n cx 2 d_M_heading_0 rfl rfl ?_
  refine v_aload_n cx 0 d_M_heading_1 rfl rfl ?_
  refine gf_M_7 cx d_M_heading_2 ?_
  refine v_iconst cx d_M_heading_5 ?_
  refine v_iald cx zl_42 (by decide) (by decide) (by decide) d_M_heading_6 (fun hl1 => ?_)
  obtain ⟨hz2, h⟩ := h
  obtain ⟨hz3, h⟩ := h
  refine v_idiv cx d_M_heading_7 hq hl1 hz2 (Or.inr hz3) ?_
  refine v_iload_n cx 1 d_M_heading_8 rfl rfl ?_
  refine v_aload_n cx 0 d_M_heading_9 rfl rfl ?_
  refine gf_M_7 cx d_M_heading_10 ?_
  refine v_iconst cx d_M_heading_13 ?_
  refine v_iald cx zl_42 (by decide) (by decide) (by decide) d_M_heading_14 (fun hl4 => ?_)
  obtain ⟨hz5, h⟩ := h
  obtain ⟨hz6, h⟩ := h
  refine v_idiv cx d_M_heading_15 hp hl4 hz5 (Or.inr hz6) ?_
  refine v_isub cx d_M_heading_16 ?_
  refine v_iload_n cx 2 d_M_heading_17 rfl rfl ?_
  refine v_aload_n cx 0 d_M_heading_18 rfl rfl ?_
  refine gf_M_7 cx d_M_heading_19 ?_
  refine v_iconst cx d_M_heading_22 ?_
  refine v_iald cx zl_42 (by decide) (by decide) (by decide) d_M_heading_23 (fun hl7 => ?_)
  obtain ⟨hz8, h⟩ := h
  refine v_irem cx d_M_heading_24 hq hl7 hz8 ?_
  refine v_iload_n cx 1 d_M_heading_25 rfl rfl ?_
  refine v_aload_n cx 0 d_M_heading_26 rfl rfl ?_
  refine gf_M_7 cx d_M_heading_27 ?_
  refine v_iconst cx d_M_heading_30 ?_
  refine v_iald cx zl_42 (by decide) (by decide) (by decide) d_M_heading_31 (fun hl9 => ?_)
  obtain ⟨hz10, h⟩ := h
  refine v_irem cx d_M_heading_32 hp hl9 hz10 ?_
  refine v_isub cx d_M_heading_33 ?_
  obtain ⟨hr11, h⟩ := h
  obtain ⟨hr12, h⟩ := h
  refine v_callSi0 (st := []) cx (s_M_headingOf hr11 hr12 h) yk_M_headingOf lk_M_175 rfl rfl (Nat.le_of_ble_eq_true rfl) ⟨Nat.le_of_ble_eq_true rfl, Nat.le_of_ble_eq_true rfl⟩ ⟨rfl, rfl⟩ ⟨(Nat.le_of_ble_eq_true rfl), (Nat.le_of_ble_eq_true rfl)⟩ d_M_heading_34 (fun r14 σ13 hr14 h => ?_)
  exact rt _ _ _ _ _ _ (Nat.le_of_ble_eq_true rfl) (Nat.le_of_ble_eq_true rfl) d_M_heading_37 hr14 h
def q_M_measure (kind : Int) (K : Int → zS → Prop) (σ : zS) : Prop :=
  ∃ (I7 : Int → Int → Int → zS → Prop) (μ7 : Int → Int → Int → zS → Nat), (I7 0 (-1) 1 σ) ∧ ∀ (y1 y2 y3 : Int) (σ4 : zS), I7 y1 y2 y3 σ4 → zR y1 → zR y2 → zR y3 → 
  ((σ4 41 20) ≤ y3 →
    K y1 σ4) ∧ (y3 < (σ4 41 20) →
    (0 ≤ y3 - 1 ∧ y3 - 1 < 700) ∧ ((0 ≤ y3 ∧ y3 < 700) ∧ (q_M_heading (σ4 54 (y3 - 1)) (σ4 54 y3) (fun r12 σ11 =>
          q_M_stepOf (σ11 54 (y3 - 1)) r12 kind (fun r15 σ14 =>
            (y2 ≠ (-1) →
              q_M_bendOf y2 r12 kind (fun r18 σ17 =>
                ∀ x19 : Int, x19 = y1 + (r15 + r18) → I7 x19 r12 (y3 + 1) σ17 ∧ zR x19 ∧ zR (y3 + 1) ∧ μ7 x19 r12 (y3 + 1) σ17 < μ7 y1 y2 y3 σ4) σ14) ∧ (y2 = (-1) →
              ∀ x23 : Int, x23 = y1 + (r15 + 0) → I7 x23 r12 (y3 + 1) σ14 ∧ zR x23 ∧ zR (y3 + 1) ∧ μ7 x23 r12 (y3 + 1) σ14 < μ7 y1 y2 y3 σ4)) σ11) σ4)))
abbrev rm_M_measure : Room := { frames := 4, cells := 0, slots := 0, locals := 96 }
set_option maxRecDepth 20000 in
set_option maxHeartbeats 4000000 in
theorem s_M_measure {Ω : zO} {ad : Nat → Nat} {kind : Int} {K : Int → zS → Prop} {σ : zS} (hkind : zR kind) (h : q_M_measure kind K σ) : zMi Ω y_M_measure (.code y_M_measure c_M_measure 6 (some .int)) rm_M_measure zLy ad [.ref (ad 41), .int (zI kind)] σ K := by
  refine z_ofi (lv := [(0, .ref (ad 41)), (1, .int (zI kind))]) (by decide) rfl (Nat.le_of_ble_eq_true rfl) ?_
  intro Γ Q cx rt
  unfold q_M_measure at h
  refine v_iconst cx d_M_measure_0 ?_
  refine v_istore_n (lv' := [(0, .ref (ad 41)), (1, .int (zI kind)), (2, .int (zI 0))]) cx d_M_measure_1 rfl (by decide) rfl rfl ?_
  refine v_iconst cx d_M_measure_2 ?_
  refine v_istore_n (lv' := [(0, .ref (ad 41)), (1, .int (zI kind)), (2, .int (zI 0)), (3, .int (zI (-1)))]) cx d_M_measure_3 rfl (by decide) rfl rfl ?_
  refine v_iconst cx d_M_measure_4 ?_
  refine v_istore (lv' := [(0, .ref (ad 41)), (1, .int (zI kind)), (2, .int (zI 0)), (3, .int (zI (-1))), (4, .int (zI 1))]) cx d_M_measure_5 (by decide) rfl rfl ?_
  obtain ⟨I7, μ7, h0, h⟩ := h
  have L7 : ∀ (N7 : Nat) (y1 y2 y3 : Int) (σ4 : zS), μ7 y1 y2 y3 σ4 < N7 → I7 y1 y2 y3 σ4 → zR y1 → zR y2 → zR y3 → zV Ω Γ rm_M_measure 6 Q 0 0 zLy ad σ4 7 [(0, .ref (ad 41)), (1, .int (zI kind)), (2, .int (zI y1)), (3, .int (zI y2)), (4, .int (zI y3))] [] := by
    intro N7
    induction N7 with
    | zero => intro y1 y2 y3 σ4 hm; exact absurd hm (Nat.not_lt_zero _)
    | succ N7 ih7 =>
      intro y1 y2 y3 σ4 hmm7 hI hy1 hy2 hy3
      replace h := h y1 y2 y3 σ4 hI hy1 hy2 hy3
      refine v_iload cx 4 d_M_measure_7 rfl ?_
      refine v_aload_n cx 0 d_M_measure_9 rfl rfl ?_
      refine gf_M_172 cx d_M_measure_10 (fun hl5 => ?_)
      refine v_icmp_ge cx 84 d_M_measure_13 (by decide) hy3 hl5 (fun c6 => ?_) (fun c6 => ?_)
      · replace h := h.1 c6
        refine v_iload_n cx 2 d_M_measure_84 rfl rfl ?_
        exact rt _ _ _ _ _ _ (Nat.le_of_ble_eq_true rfl) (Nat.le_of_ble_eq_true rfl) d_M_measure_85 hy1 h
      · replace h := h.2 c6
        refine v_aload_n cx 0 d_M_measure_16 rfl rfl ?_
        refine v_aload_n cx 0 d_M_measure_17 rfl rfl ?_
        refine gf_M_50 cx d_M_measure_18 ?_
        refine v_iload cx 4 d_M_measure_21 rfl ?_
        refine v_iconst cx d_M_measure_23 ?_
        refine v_isub cx d_M_measure_24 ?_
        obtain ⟨hb7, h⟩ := h
        refine v_iald cx zl_54 (by decide) hb7.1 hb7.2 d_M_measure_25 (fun hl8 => ?_)
        refine v_aload_n cx 0 d_M_measure_26 rfl rfl ?_
        refine gf_M_50 cx d_M_measure_27 ?_
        refine v_iload cx 4 d_M_measure_30 rfl ?_
        obtain ⟨hb9, h⟩ := h
        refine v_iald cx zl_54 (by decide) hb9.1 hb9.2 d_M_measure_32 (fun hl10 => ?_)
        refine v_callVi0 (st := []) cx (s_M_heading hl8 hl10 h) yk_M_heading lk_M_178 zl_41 rfl rfl rfl (Nat.le_of_ble_eq_true rfl) ⟨Nat.le_of_ble_eq_true rfl, Nat.le_of_ble_eq_true rfl⟩ ⟨rfl, rfl⟩ ⟨(Nat.le_of_ble_eq_true rfl), (Nat.le_of_ble_eq_true rfl)⟩ d_M_measure_33 (fun r12 σ11 hr12 h => ?_)
        refine v_istore (lv' := [(0, .ref (ad 41)), (1, .int (zI kind)), (2, .int (zI y1)), (3, .int (zI y2)), (4, .int (zI y3)), (5, .int (zI r12))]) cx d_M_measure_36 (by decide) rfl rfl ?_
        refine v_iload_n cx 2 d_M_measure_38 rfl rfl ?_
        refine v_aload_n cx 0 d_M_measure_39 rfl rfl ?_
        refine v_aload_n cx 0 d_M_measure_40 rfl rfl ?_
        refine gf_M_50 cx d_M_measure_41 ?_
        refine v_iload cx 4 d_M_measure_44 rfl ?_
        refine v_iconst cx d_M_measure_46 ?_
        refine v_isub cx d_M_measure_47 ?_
        refine v_iald cx zl_54 (by decide) hb7.1 hb7.2 d_M_measure_48 (fun hl13 => ?_)
        refine v_iload cx 5 d_M_measure_49 rfl ?_
        refine v_iload_n cx 1 d_M_measure_51 rfl rfl ?_
        refine v_callVi0 (st := [.int (zI y1)]) cx (s_M_stepOf hl13 hr12 hkind h) yk_M_stepOf lk_M_139 zl_41 rfl rfl rfl (Nat.le_of_ble_eq_true rfl) ⟨Nat.le_of_ble_eq_true rfl, Nat.le_of_ble_eq_true rfl⟩ ⟨rfl, rfl⟩ ⟨(Nat.le_of_ble_eq_true rfl), (Nat.le_of_ble_eq_true rfl)⟩ d_M_measure_52 (fun r15 σ14 hr15 h => ?_)
        refine v_iload_n cx 3 d_M_measure_55 rfl rfl ?_
        refine v_iconst cx d_M_measure_56 ?_
        refine v_icmp_ne cx 64 d_M_measure_57 (by decide) hy2 ⟨by decide, by decide⟩ (fun c16 => ?_) (fun c16 => ?_)
        · replace h := h.1 c16
          refine v_aload_n cx 0 d_M_measure_64 rfl rfl ?_
          refine v_iload_n cx 3 d_M_measure_65 rfl rfl ?_
          refine v_iload cx 5 d_M_measure_66 rfl ?_
          refine v_iload_n cx 1 d_M_measure_68 rfl rfl ?_
          refine v_callVi0 (st := [.int (zI r15), .int (zI y1)]) cx (s_M_bendOf hy2 hr12 hkind h) yk_M_bendOf lk_M_156 zl_41 rfl rfl rfl (Nat.le_of_ble_eq_true rfl) ⟨Nat.le_of_ble_eq_true rfl, Nat.le_of_ble_eq_true rfl⟩ ⟨rfl, rfl⟩ ⟨(Nat.le_of_ble_eq_true rfl), (Nat.le_of_ble_eq_true rfl)⟩ d_M_measure_69 (fun r18 σ17 hr18 h => ?_)
          refine v_iadd cx d_M_measure_72 ?_
          refine v_iadd cx d_M_measure_73 ?_
          refine v_nm (fun x19 ex19 => ?_)
          replace h := h x19 ex19
          refine v_istore_n (lv' := [(0, .ref (ad 41)), (1, .int (zI kind)), (2, .int (zI x19)), (3, .int (zI y2)), (4, .int (zI y3)), (5, .int (zI r12))]) cx d_M_measure_74 rfl (by decide) rfl rfl ?_
          refine v_iload cx 5 d_M_measure_75 rfl ?_
          refine v_istore_n (lv' := [(0, .ref (ad 41)), (1, .int (zI kind)), (2, .int (zI x19)), (3, .int (zI r12)), (4, .int (zI y3)), (5, .int (zI r12))]) cx d_M_measure_77 rfl (by decide) rfl rfl ?_
          refine v_iinc (lv' := [(0, .ref (ad 41)), (1, .int (zI kind)), (2, .int (zI x19)), (3, .int (zI r12)), (4, .int (zI (y3 + 1))), (5, .int (zI r12))]) cx 4 d_M_measure_78 rfl (by decide) rfl rfl ?_
          refine v_goto cx 7 d_M_measure_81 (by decide) ?_
          refine v_sb (lv' := [(0, .ref (ad 41)), (1, .int (zI kind)), (2, .int (zI x19)), (3, .int (zI r12)), (4, .int (zI (y3 + 1)))]) [0, 1, 2, 3, 4] rfl ?_
          obtain ⟨hI2, hz21, hz22, hm2⟩ := h
          exact ih7 _ _ _ _ (Nat.lt_of_lt_of_le hm2 (Nat.le_of_lt_succ hmm7)) hI2 hz21 hr12 hz22
        · replace h := h.2 c16
          refine v_iconst cx d_M_measure_60 ?_
          refine v_goto cx 72 d_M_measure_61 (by decide) ?_
          refine v_iadd cx d_M_measure_72 ?_
          refine v_iadd cx d_M_measure_73 ?_
          refine v_nm (fun x23 ex23 => ?_)
          replace h := h x23 ex23
          refine v_istore_n (lv' := [(0, .ref (ad 41)), (1, .int (zI kind)), (2, .int (zI x23)), (3, .int (zI y2)), (4, .int (zI y3)), (5, .int (zI r12))]) cx d_M_measure_74 rfl (by decide) rfl rfl ?_
          refine v_iload cx 5 d_M_measure_75 rfl ?_
          refine v_istore_n (lv' := [(0, .ref (ad 41)), (1, .int (zI kind)), (2, .int (zI x23)), (3, .int (zI r12)), (4, .int (zI y3)), (5, .int (zI r12))]) cx d_M_measure_77 rfl (by decide) rfl rfl ?_
          refine v_iinc (lv' := [(0, .ref (ad 41)), (1, .int (zI kind)), (2, .int (zI x23)), (3, .int (zI r12)), (4, .int (zI (y3 + 1))), (5, .int (zI r12))]) cx 4 d_M_measure_78 rfl (by decide) rfl rfl ?_
          refine v_goto cx 7 d_M_measure_81 (by decide) ?_
          refine v_sb (lv' := [(0, .ref (ad 41)), (1, .int (zI kind)), (2, .int (zI x23)), (3, .int (zI r12)), (4, .int (zI (y3 + 1)))]) [0, 1, 2, 3, 4] rfl ?_
          obtain ⟨hI2, hz25, hz26, hm2⟩ := h
          exact ih7 _ _ _ _ (Nat.lt_of_lt_of_le hm2 (Nat.le_of_lt_succ hmm7)) hI2 hz25 hr12 hz26
  exact L7 _ _ _ _ _ (Nat.lt_succ_self _) h0 ⟨by decide, by decide⟩ ⟨by decide, by decide⟩ ⟨by decide, by decide⟩
def q_M_isLesser (state : Int) (a : Int) (K : Int → zS → Prop) (σ : zS) : Prop :=
  (0 ≤ state ∧ state < 648) ∧ ((a < (σ 51 state) →
      ∀ σ4 : zS, σ4 = zU σ 51 state a → K 1 σ4) ∧ ((σ 51 state) ≤ a →
      K 0 σ))
abbrev rm_M_isLesser : Room := { frames := 0, cells := 0, slots := 0, locals := 0 }
set_option maxRecDepth 20000 in
set_option maxHeartbeats 4000000 in
theorem s_M_isLesser {Ω : zO} {ad : Nat → Nat} {state : Int} {a : Int} {K : Int → zS → Prop} {σ : zS} (hstate : zR state) (ha : zR a) (h : q_M_isLesser state a K σ) : zMz Ω y_M_isLesser (.code y_M_isLesser c_M_isLesser 3 (some .boolean)) rm_M_isLesser zLy ad [.ref (ad 41), .int (zI state), .int (zI a)] σ K := by
  refine z_ofz (lv := [(0, .ref (ad 41)), (1, .int (zI state)), (2, .int (zI a))]) (by decide) rfl (Nat.le_of_ble_eq_true rfl) ?_
  intro Γ Q cx rt
  unfold q_M_isLesser at h
  refine v_iload_n cx 2 d_M_isLesser_0 rfl rfl ?_
  refine v_aload_n cx 0 d_M_isLesser_1 rfl rfl ?_
  refine gf_M_41 cx d_M_isLesser_2 ?_
  refine v_iload_n cx 1 d_M_isLesser_5 rfl rfl ?_
  obtain ⟨hb1, h⟩ := h
  refine v_iald cx zl_51 (by decide) hb1.1 hb1.2 d_M_isLesser_6 (fun hl2 => ?_)
  refine v_icmp_lt cx 12 d_M_isLesser_7 (by decide) ha hl2 (fun c3 => ?_) (fun c3 => ?_)
  · replace h := h.1 c3
    refine v_aload_n cx 0 d_M_isLesser_12 rfl rfl ?_
    refine gf_M_41 cx d_M_isLesser_13 ?_
    refine v_iload_n cx 1 d_M_isLesser_16 rfl rfl ?_
    refine v_iload_n cx 2 d_M_isLesser_17 rfl rfl ?_
    refine v_iast cx zl_51 (by decide) hb1.1 hb1.2 ha d_M_isLesser_18 ?_
    refine v_ns (fun σ4 eσ4 => ?_)
    replace h := h σ4 eσ4
    refine v_iconst cx d_M_isLesser_19 ?_
    exact rt _ _ _ _ _ _ (Nat.le_of_ble_eq_true rfl) (Nat.le_of_ble_eq_true rfl) d_M_isLesser_20 (Or.inr rfl) h
  · replace h := h.2 c3
    refine v_iconst cx d_M_isLesser_10 ?_
    exact rt _ _ _ _ _ _ (Nat.le_of_ble_eq_true rfl) (Nat.le_of_ble_eq_true rfl) d_M_isLesser_11 (Or.inl rfl) h
def q_M_goesFrom (from_ : Int) (K : zS → Prop) (σ : zS) : Prop :=
  ∃ (I2 : Int → zS → Prop) (μ2 : Int → zS → Nat), (I2 0 σ) ∧ ∀ (y1 : Int) (σ2 : zS), I2 y1 σ2 → zR y1 → 
  (648 ≤ y1 →
    ∃ (I25 : Int → zS → Prop) (μ25 : Int → zS → Nat), (I25 0 σ2) ∧ ∀ (y4 : Int) (σ5 : zS), I25 y4 σ5 → zR y4 → 
    (8 ≤ y4 →
      ∃ (I71 : Int → zS → Prop) (μ71 : Int → zS → Nat), (I71 1 σ5) ∧ ∀ (y7 : Int) (σ8 : zS), I71 y7 σ8 → zR y7 → 
      (y7 = 0 →
        K σ8) ∧ (y7 ≠ 0 →
        ∃ (I79 : Int → Int → zS → Prop) (μ79 : Int → Int → zS → Nat), (I79 0 0 σ8) ∧ ∀ (y10 y11 : Int) (σ12 : zS), I79 y10 y11 σ12 → zR y10 → zR y11 → 
        q_M_places (fun r14 σ13 =>
          zR (8 * r14) ∧ (((8 * r14) ≤ y11 →
              I71 y10 σ13 ∧ μ71 y10 σ13 < μ71 y7 σ8) ∧ (y11 < (8 * r14) →
              (0 ≤ y11 ∧ y11 < 648) ∧ (((σ13 51 y11) ≠ 1000000000 →
                  ∀ x20 : Int, x20 = Int.tdiv y11 8 → ∃ (I113 : Int → Int → zS → Prop) (μ113 : Int → Int → zS → Nat), (I113 y10 0 σ13) ∧ ∀ (y21 y22 : Int) (σ23 : zS), I113 y21 y22 σ23 → zR y21 → zR y22 → 
                  (8 ≤ y22 →
                    I79 y21 (y11 + 1) σ23 ∧ zR (y11 + 1) ∧ μ79 y21 (y11 + 1) σ23 < μ79 y10 y11 σ12) ∧ (y22 < 8 →
                    zR x20 ∧ (q_M_canStep x20 y22 (fun r29 σ28 =>
                        (r29 = 0 →
                          I113 y21 (y22 + 1) σ28 ∧ zR (y22 + 1) ∧ μ113 y21 (y22 + 1) σ28 < μ113 y21 y22 σ23) ∧ (r29 ≠ 0 →
                          zR (Int.tmod y11 8) ∧ (q_M_canBend x20 (Int.tmod y11 8) y22 (fun r35 σ34 =>
                              (r35 ≠ 0 →
                                q_M_beside x20 y22 (fun r38 σ37 =>
                                  q_M_stepOf x20 y22 0 (fun r41 σ40 =>
                                    q_M_bendCost (Int.tmod y11 8) y22 (fun r43 σ42 =>
                                      zR ((8 * r38) + y22) ∧ (zR (((σ37 51 y11) + r41) + r43) ∧ (q_M_isLesser ((8 * r38) + y22) (((σ37 51 y11) + r41) + r43) (fun r47 σ46 =>
                                            (r47 ≠ 0 →
                                              I113 1 (y22 + 1) σ46 ∧ zR (y22 + 1) ∧ μ113 1 (y22 + 1) σ46 < μ113 y21 y22 σ23) ∧ (r47 = 0 →
                                              (y21 = 0 →
                                                I113 0 (y22 + 1) σ46 ∧ zR (y22 + 1) ∧ μ113 0 (y22 + 1) σ46 < μ113 y21 y22 σ23) ∧ (y21 ≠ 0 →
                                                I113 1 (y22 + 1) σ46 ∧ zR (y22 + 1) ∧ μ113 1 (y22 + 1) σ46 < μ113 y21 y22 σ23))) σ42))) σ40) σ37) σ34) ∧ (r35 = 0 →
                                I113 y21 (y22 + 1) σ34 ∧ zR (y22 + 1) ∧ μ113 y21 (y22 + 1) σ34 < μ113 y21 y22 σ23)) σ28))) σ23))) ∧ ((σ13 51 y11) = 1000000000 →
                  I79 y10 (y11 + 1) σ13 ∧ zR (y11 + 1) ∧ μ79 y10 (y11 + 1) σ13 < μ79 y10 y11 σ12))))) σ12)) ∧ (y4 < 8 →
      q_M_canStep from_ y4 (fun r61 σ60 =>
        (r61 = 0 →
          I25 (y4 + 1) σ60 ∧ zR (y4 + 1) ∧ μ25 (y4 + 1) σ60 < μ25 y4 σ5) ∧ (r61 ≠ 0 →
          q_M_beside from_ y4 (fun r66 σ65 =>
            q_M_stepOf from_ y4 0 (fun r68 σ67 =>
              (0 ≤ (8 * r66) + y4 ∧ (8 * r66) + y4 < 648) ∧ (∀ σ70 : zS, σ70 = zU σ67 51 ((8 * r66) + y4) r68 → I25 (y4 + 1) σ70 ∧ zR (y4 + 1) ∧ μ25 (y4 + 1) σ70 < μ25 y4 σ5)) σ65) σ60)) σ5)) ∧ (y1 < 648 →
    (0 ≤ y1 ∧ y1 < 648) ∧ (∀ σ74 : zS, σ74 = zU σ2 51 y1 1000000000 → I2 (y1 + 1) σ74 ∧ zR (y1 + 1) ∧ μ2 (y1 + 1) σ74 < μ2 y1 σ2))
abbrev rm_M_goesFrom : Room := { frames := 4, cells := 0, slots := 0, locals := 96 }
set_option maxRecDepth 20000 in
set_option maxHeartbeats 4000000 in
theorem s_M_goesFrom {Ω : zO} {ad : Nat → Nat} {from_ : Int} {K : zS → Prop} {σ : zS} (hfrom_ : zR from_) (h : q_M_goesFrom from_ K σ) : zMv Ω y_M_goesFrom (.code y_M_goesFrom c_M_goesFrom 6 none) rm_M_goesFrom zLy ad [.ref (ad 41), .int (zI from_)] σ K := by
  refine z_ofv (lv := [(0, .ref (ad 41)), (1, .int (zI from_))]) (by decide) rfl (Nat.le_of_ble_eq_true rfl) ?_
  intro Γ Q cx rt
  unfold q_M_goesFrom at h
  refine v_iconst cx d_M_goesFrom_0 ?_
  refine v_istore_n (lv' := [(0, .ref (ad 41)), (1, .int (zI from_)), (2, .int (zI 0))]) cx d_M_goesFrom_1 rfl (by decide) rfl rfl ?_
  obtain ⟨I2, μ2, h0, h⟩ := h
  have L2 : ∀ (N2 : Nat) (y1 : Int) (σ2 : zS), μ2 y1 σ2 < N2 → I2 y1 σ2 → zR y1 → zV Ω Γ rm_M_goesFrom 6 Q 0 0 zLy ad σ2 2 [(0, .ref (ad 41)), (1, .int (zI from_)), (2, .int (zI y1))] [] := by
    intro N2
    induction N2 with
    | zero => intro y1 σ2 hm; exact absurd hm (Nat.not_lt_zero _)
    | succ N2 ih2 =>
      intro y1 σ2 hmm2 hI hy1
      replace h := h y1 σ2 hI hy1
      refine v_iload_n cx 2 d_M_goesFrom_2 rfl rfl ?_
      refine v_sipush cx (by decide) d_M_goesFrom_3 ?_
      refine v_icmp_ge cx 23 d_M_goesFrom_6 (by decide) hy1 ⟨by decide, by decide⟩ (fun c3 => ?_) (fun c3 => ?_)
      · replace h := h.1 c3
        refine v_iconst cx d_M_goesFrom_23 ?_
        refine v_istore_n (lv' := [(0, .ref (ad 41)), (1, .int (zI from_)), (2, .int (zI 0))]) cx d_M_goesFrom_24 rfl (by decide) rfl rfl ?_
        obtain ⟨I25, μ25, h0, h⟩ := h
        have L25 : ∀ (N25 : Nat) (y4 : Int) (σ5 : zS), μ25 y4 σ5 < N25 → I25 y4 σ5 → zR y4 → zV Ω Γ rm_M_goesFrom 6 Q 0 0 zLy ad σ5 25 [(0, .ref (ad 41)), (1, .int (zI from_)), (2, .int (zI y4))] [] := by
          intro N25
          induction N25 with
          | zero => intro y4 σ5 hm; exact absurd hm (Nat.not_lt_zero _)
          | succ N25 ih25 =>
            intro y4 σ5 hmm25 hI hy4
            replace h := h y4 σ5 hI hy4
            refine v_iload_n cx 2 d_M_goesFrom_25 rfl rfl ?_
            refine v_bipush cx (by decide) d_M_goesFrom_26 ?_
            refine v_icmp_ge cx 69 d_M_goesFrom_28 (by decide) hy4 ⟨by decide, by decide⟩ (fun c6 => ?_) (fun c6 => ?_)
            · replace h := h.1 c6
              refine v_iconst cx d_M_goesFrom_69 ?_
              refine v_istore_n (lv' := [(0, .ref (ad 41)), (1, .int (zI from_)), (2, .int (zI 1))]) cx d_M_goesFrom_70 rfl (by decide) rfl rfl ?_
              refine v_sb (lv' := [(0, .ref (ad 41)), (2, .int (zI 1))]) [0, 2] rfl ?_
              obtain ⟨I71, μ71, h0, h⟩ := h
              have L71 : ∀ (N71 : Nat) (y7 : Int) (σ8 : zS), μ71 y7 σ8 < N71 → I71 y7 σ8 → zR y7 → zV Ω Γ rm_M_goesFrom 6 Q 0 0 zLy ad σ8 71 [(0, .ref (ad 41)), (2, .int (zI y7))] [] := by
                intro N71
                induction N71 with
                | zero => intro y7 σ8 hm; exact absurd hm (Nat.not_lt_zero _)
                | succ N71 ih71 =>
                  intro y7 σ8 hmm71 hI hy7
                  replace h := h y7 σ8 hI hy7
                  refine v_iload_n cx 1 d_M_goesFrom_71 rfl rfl ?_
                  refine v_if_eq cx 222 d_M_goesFrom_72 (by decide) hy7 (fun c9 => ?_) (fun c9 => ?_)
                  · replace h := h.1 c9
                    exact rt _ _ _ _ _ (Nat.le_of_ble_eq_true rfl) (Nat.le_of_ble_eq_true rfl) d_M_goesFrom_222 h
                  · replace h := h.2 c9
                    refine v_iconst cx d_M_goesFrom_75 ?_
                    refine v_istore_n (lv' := [(0, .ref (ad 41)), (2, .int (zI 0))]) cx d_M_goesFrom_76 rfl (by decide) rfl rfl ?_
                    refine v_iconst cx d_M_goesFrom_77 ?_
                    refine v_istore_n (lv' := [(0, .ref (ad 41)), (2, .int (zI 0)), (3, .int (zI 0))]) cx d_M_goesFrom_78 rfl (by decide) rfl rfl ?_
                    obtain ⟨I79, μ79, h0, h⟩ := h
                    have L79 : ∀ (N79 : Nat) (y10 y11 : Int) (σ12 : zS), μ79 y10 y11 σ12 < N79 → I79 y10 y11 σ12 → zR y10 → zR y11 → zV Ω Γ rm_M_goesFrom 6 Q 0 0 zLy ad σ12 79 [(0, .ref (ad 41)), (2, .int (zI y10)), (3, .int (zI y11))] [] := by
                      intro N79
                      induction N79 with
                      | zero => intro y10 y11 σ12 hm; exact absurd hm (Nat.not_lt_zero _)
                      | succ N79 ih79 =>
                        intro y10 y11 σ12 hmm79 hI hy10 hy11
                        replace h := h y10 y11 σ12 hI hy10 hy11
                        refine v_iload_n cx 2 d_M_goesFrom_79 rfl rfl ?_
                        refine v_bipush cx (by decide) d_M_goesFrom_80 ?_
                        refine v_aload_n cx 0 d_M_goesFrom_82 rfl rfl ?_
                        refine v_callVi0 (st := [.int (zI 8), .int (zI y11)]) cx (s_M_places  h) yk_M_places lk_M_90 zl_41 rfl rfl rfl (Nat.le_of_ble_eq_true rfl) ⟨Nat.le_of_ble_eq_true rfl, Nat.le_of_ble_eq_true rfl⟩ ⟨rfl, rfl⟩ ⟨(Nat.le_of_ble_eq_true rfl), (Nat.le_of_ble_eq_true rfl)⟩ d_M_goesFrom_83 (fun r14 σ13 hr14 h => ?_)
                        refine v_imul cx d_M_goesFrom_86 ?_
                        obtain ⟨hr15, h⟩ := h
                        refine v_icmp_ge cx 219 d_M_goesFrom_87 (by decide) hy11 hr15 (fun c16 => ?_) (fun c16 => ?_)
                        · replace h := h.1 c16
                          refine v_goto cx 71 d_M_goesFrom_219 (by decide) ?_
                          refine v_sb (lv' := [(0, .ref (ad 41)), (2, .int (zI y10))]) [0, 1] rfl ?_
                          obtain ⟨hI2, hm2⟩ := h
                          exact ih71 _ _ (Nat.lt_of_lt_of_le hm2 (Nat.le_of_lt_succ hmm71)) hI2 hy10
                        · replace h := h.2 c16
                          refine v_aload_n cx 0 d_M_goesFrom_90 rfl rfl ?_
                          refine gf_M_41 cx d_M_goesFrom_91 ?_
                          refine v_iload_n cx 2 d_M_goesFrom_94 rfl rfl ?_
                          obtain ⟨hb17, h⟩ := h
                          refine v_iald cx zl_51 (by decide) hb17.1 hb17.2 d_M_goesFrom_95 (fun hl18 => ?_)
                          refine v_ldc cx ct_M_155 d_M_goesFrom_96 ?_
                          refine v_icmp_ne cx 104 d_M_goesFrom_98 (by decide) hl18 ⟨by decide, by decide⟩ (fun c19 => ?_) (fun c19 => ?_)
                          · replace h := h.1 c19
                            refine v_iload_n cx 2 d_M_goesFrom_104 rfl rfl ?_
                            refine v_bipush cx (by decide) d_M_goesFrom_105 ?_
                            refine v_idiv cx d_M_goesFrom_107 hy11 ⟨by decide, by decide⟩ (by decide) (Or.inr (by decide)) ?_
                            refine v_nm (fun x20 ex20 => ?_)
                            replace h := h x20 ex20
                            refine v_istore (lv' := [(0, .ref (ad 41)), (2, .int (zI y10)), (3, .int (zI y11)), (4, .int (zI x20))]) cx d_M_goesFrom_108 (by decide) rfl rfl ?_
                            refine v_iconst cx d_M_goesFrom_110 ?_
                            refine v_istore (lv' := [(0, .ref (ad 41)), (2, .int (zI y10)), (3, .int (zI y11)), (4, .int (zI x20)), (5, .int (zI 0))]) cx d_M_goesFrom_111 (by decide) rfl rfl ?_
                            obtain ⟨I113, μ113, h0, h⟩ := h
                            have L113 : ∀ (N113 : Nat) (y21 y22 : Int) (σ23 : zS), μ113 y21 y22 σ23 < N113 → I113 y21 y22 σ23 → zR y21 → zR y22 → zV Ω Γ rm_M_goesFrom 6 Q 0 0 zLy ad σ23 113 [(0, .ref (ad 41)), (2, .int (zI y21)), (3, .int (zI y11)), (4, .int (zI x20)), (5, .int (zI y22))] [] := by
                              intro N113
                              induction N113 with
                              | zero => intro y21 y22 σ23 hm; exact absurd hm (Nat.not_lt_zero _)
                              | succ N113 ih113 =>
                                intro y21 y22 σ23 hmm113 hI hy21 hy22
                                replace h := h y21 y22 σ23 hI hy21 hy22
                                refine v_iload cx 4 d_M_goesFrom_113 rfl ?_
                                refine v_bipush cx (by decide) d_M_goesFrom_115 ?_
                                refine v_icmp_ge cx 213 d_M_goesFrom_117 (by decide) hy22 ⟨by decide, by decide⟩ (fun c24 => ?_) (fun c24 => ?_)
                                · replace h := h.1 c24
                                  refine v_iinc (lv' := [(0, .ref (ad 41)), (2, .int (zI y21)), (3, .int (zI (y11 + 1))), (4, .int (zI x20)), (5, .int (zI y22))]) cx 2 d_M_goesFrom_213 rfl (by decide) rfl rfl ?_
                                  refine v_goto cx 79 d_M_goesFrom_216 (by decide) ?_
                                  refine v_sb (lv' := [(0, .ref (ad 41)), (2, .int (zI y21)), (3, .int (zI (y11 + 1)))]) [0, 1, 2] rfl ?_
                                  obtain ⟨hI2, hz26, hm2⟩ := h
                                  exact ih79 _ _ _ (Nat.lt_of_lt_of_le hm2 (Nat.le_of_lt_succ hmm79)) hI2 hy21 hz26
                                · replace h := h.2 c24
                                  refine v_aload_n cx 0 d_M_goesFrom_120 rfl rfl ?_
                                  refine v_iload cx 3 d_M_goesFrom_121 rfl ?_
                                  refine v_iload cx 4 d_M_goesFrom_123 rfl ?_
                                  obtain ⟨hr27, h⟩ := h
                                  refine v_callVz0 (st := []) cx (s_M_canStep hr27 hy22 h) yk_M_canStep lk_M_149 zl_41 rfl rfl rfl (Nat.le_of_ble_eq_true rfl) ⟨Nat.le_of_ble_eq_true rfl, Nat.le_of_ble_eq_true rfl⟩ ⟨rfl, rfl⟩ ⟨(Nat.le_of_ble_eq_true rfl), (Nat.le_of_ble_eq_true rfl)⟩ d_M_goesFrom_125 (fun r29 σ28 hr29 h => ?_)
                                  refine v_if_eq cx 207 d_M_goesFrom_128 (by decide) (zR_b hr29) (fun c30 => ?_) (fun c30 => ?_)
                                  · replace h := h.1 c30
                                    refine v_iinc (lv' := [(0, .ref (ad 41)), (2, .int (zI y21)), (3, .int (zI y11)), (4, .int (zI x20)), (5, .int (zI (y22 + 1)))]) cx 4 d_M_goesFrom_207 rfl (by decide) rfl rfl ?_
                                    refine v_goto cx 113 d_M_goesFrom_210 (by decide) ?_
                                    obtain ⟨hI2, hz32, hm2⟩ := h
                                    exact ih113 _ _ _ (Nat.lt_of_lt_of_le hm2 (Nat.le_of_lt_succ hmm113)) hI2 hy21 hz32
                                  · replace h := h.2 c30
                                    refine v_aload_n cx 0 d_M_goesFrom_131 rfl rfl ?_
                                    refine v_iload cx 3 d_M_goesFrom_132 rfl ?_
                                    refine v_iload_n cx 2 d_M_goesFrom_134 rfl rfl ?_
                                    refine v_bipush cx (by decide) d_M_goesFrom_135 ?_
                                    refine v_irem cx d_M_goesFrom_137 hy11 ⟨by decide, by decide⟩ (by decide) ?_
                                    refine v_iload cx 4 d_M_goesFrom_138 rfl ?_
                                    obtain ⟨hr33, h⟩ := h
                                    refine v_callVz0 (st := []) cx (s_M_canBend hr27 hr33 hy22 h) yk_M_canBend lk_M_152 zl_41 rfl rfl rfl (Nat.le_of_ble_eq_true rfl) ⟨Nat.le_of_ble_eq_true rfl, Nat.le_of_ble_eq_true rfl⟩ ⟨rfl, rfl⟩ ⟨(Nat.le_of_ble_eq_true rfl), (Nat.le_of_ble_eq_true rfl)⟩ d_M_goesFrom_140 (fun r35 σ34 hr35 h => ?_)
                                    refine v_if_ne cx 149 d_M_goesFrom_143 (by decide) (zR_b hr35) (fun c36 => ?_) (fun c36 => ?_)
                                    · replace h := h.1 c36
                                      refine v_aload_n cx 0 d_M_goesFrom_149 rfl rfl ?_
                                      refine v_bipush cx (by decide) d_M_goesFrom_150 ?_
                                      refine v_aload_n cx 0 d_M_goesFrom_152 rfl rfl ?_
                                      refine v_iload cx 3 d_M_goesFrom_153 rfl ?_
                                      refine v_iload cx 4 d_M_goesFrom_155 rfl ?_
                                      refine v_callVi0 (st := [.int (zI 8), .ref (ad 41)]) cx (s_M_beside hr27 hy22 h) yk_M_beside lk_M_102 zl_41 rfl rfl rfl (Nat.le_of_ble_eq_true rfl) ⟨Nat.le_of_ble_eq_true rfl, Nat.le_of_ble_eq_true rfl⟩ ⟨rfl, rfl⟩ ⟨(Nat.le_of_ble_eq_true rfl), (Nat.le_of_ble_eq_true rfl)⟩ d_M_goesFrom_157 (fun r38 σ37 hr38 h => ?_)
                                      refine v_imul cx d_M_goesFrom_160 ?_
                                      refine v_iload cx 4 d_M_goesFrom_161 rfl ?_
                                      refine v_iadd cx d_M_goesFrom_163 ?_
                                      refine v_aload_n cx 0 d_M_goesFrom_164 rfl rfl ?_
                                      refine gf_M_41 cx d_M_goesFrom_165 ?_
                                      refine v_iload_n cx 2 d_M_goesFrom_168 rfl rfl ?_
                                      refine v_iald cx zl_51 (by decide) hb17.1 hb17.2 d_M_goesFrom_169 (fun hl39 => ?_)
                                      refine v_aload_n cx 0 d_M_goesFrom_170 rfl rfl ?_
                                      refine v_iload cx 3 d_M_goesFrom_171 rfl ?_
                                      refine v_iload cx 4 d_M_goesFrom_173 rfl ?_
                                      refine v_iconst cx d_M_goesFrom_175 ?_
                                      refine v_callVi0 (st := [.int (zI (σ37 51 y11)), .int (zI ((8 * r38) + y22)), .ref (ad 41)]) cx (s_M_stepOf hr27 hy22 ⟨by decide, by decide⟩ h) yk_M_stepOf lk_M_139 zl_41 rfl rfl rfl (Nat.le_of_ble_eq_true rfl) ⟨Nat.le_of_ble_eq_true rfl, Nat.le_of_ble_eq_true rfl⟩ ⟨rfl, rfl⟩ ⟨(Nat.le_of_ble_eq_true rfl), (Nat.le_of_ble_eq_true rfl)⟩ d_M_goesFrom_176 (fun r41 σ40 hr41 h => ?_)
                                      refine v_iadd cx d_M_goesFrom_179 ?_
                                      refine v_aload_n cx 0 d_M_goesFrom_180 rfl rfl ?_
                                      refine v_iload_n cx 2 d_M_goesFrom_181 rfl rfl ?_
                                      refine v_bipush cx (by decide) d_M_goesFrom_182 ?_
                                      refine v_irem cx d_M_goesFrom_184 hy11 ⟨by decide, by decide⟩ (by decide) ?_
                                      refine v_iload cx 4 d_M_goesFrom_185 rfl ?_
                                      refine v_callVi0 (st := [.int (zI ((σ37 51 y11) + r41)), .int (zI ((8 * r38) + y22)), .ref (ad 41)]) cx (s_M_bendCost hr33 hy22 h) yk_M_bendCost lk_M_146 zl_41 rfl rfl rfl (Nat.le_of_ble_eq_true rfl) ⟨Nat.le_of_ble_eq_true rfl, Nat.le_of_ble_eq_true rfl⟩ ⟨rfl, rfl⟩ ⟨(Nat.le_of_ble_eq_true rfl), (Nat.le_of_ble_eq_true rfl)⟩ d_M_goesFrom_187 (fun r43 σ42 hr43 h => ?_)
                                      refine v_iadd cx d_M_goesFrom_190 ?_
                                      obtain ⟨hr44, h⟩ := h
                                      obtain ⟨hr45, h⟩ := h
                                      refine v_callVz0 (st := []) cx (s_M_isLesser hr44 hr45 h) yk_M_isLesser lk_M_181 zl_41 rfl rfl rfl (Nat.le_of_ble_eq_true rfl) ⟨Nat.le_of_ble_eq_true rfl, Nat.le_of_ble_eq_true rfl⟩ ⟨rfl, rfl⟩ ⟨(Nat.le_of_ble_eq_true rfl), (Nat.le_of_ble_eq_true rfl)⟩ d_M_goesFrom_191 (fun r47 σ46 hr47 h => ?_)
                                      refine v_if_ne cx 201 d_M_goesFrom_194 (by decide) (zR_b hr47) (fun c48 => ?_) (fun c48 => ?_)
                                      · replace h := h.1 c48
                                        refine v_iconst cx d_M_goesFrom_201 ?_
                                        refine v_goto cx 206 d_M_goesFrom_202 (by decide) ?_
                                        refine v_istore_n (lv' := [(0, .ref (ad 41)), (2, .int (zI 1)), (3, .int (zI y11)), (4, .int (zI x20)), (5, .int (zI y22))]) cx d_M_goesFrom_206 rfl (by decide) rfl rfl ?_
                                        refine v_iinc (lv' := [(0, .ref (ad 41)), (2, .int (zI 1)), (3, .int (zI y11)), (4, .int (zI x20)), (5, .int (zI (y22 + 1)))]) cx 4 d_M_goesFrom_207 rfl (by decide) rfl rfl ?_
                                        refine v_goto cx 113 d_M_goesFrom_210 (by decide) ?_
                                        obtain ⟨hI2, hz50, hm2⟩ := h
                                        exact ih113 _ _ _ (Nat.lt_of_lt_of_le hm2 (Nat.le_of_lt_succ hmm113)) hI2 ⟨by decide, by decide⟩ hz50
                                      · replace h := h.2 c48
                                        refine v_iload_n cx 1 d_M_goesFrom_197 rfl rfl ?_
                                        refine v_if_eq cx 205 d_M_goesFrom_198 (by decide) hy21 (fun c51 => ?_) (fun c51 => ?_)
                                        · replace h := h.1 c51
                                          refine v_iconst cx d_M_goesFrom_205 ?_
                                          refine v_istore_n (lv' := [(0, .ref (ad 41)), (2, .int (zI 0)), (3, .int (zI y11)), (4, .int (zI x20)), (5, .int (zI y22))]) cx d_M_goesFrom_206 rfl (by decide) rfl rfl ?_
                                          refine v_iinc (lv' := [(0, .ref (ad 41)), (2, .int (zI 0)), (3, .int (zI y11)), (4, .int (zI x20)), (5, .int (zI (y22 + 1)))]) cx 4 d_M_goesFrom_207 rfl (by decide) rfl rfl ?_
                                          refine v_goto cx 113 d_M_goesFrom_210 (by decide) ?_
                                          obtain ⟨hI2, hz53, hm2⟩ := h
                                          exact ih113 _ _ _ (Nat.lt_of_lt_of_le hm2 (Nat.le_of_lt_succ hmm113)) hI2 ⟨by decide, by decide⟩ hz53
                                        · replace h := h.2 c51
                                          refine v_iconst cx d_M_goesFrom_201 ?_
                                          refine v_goto cx 206 d_M_goesFrom_202 (by decide) ?_
                                          refine v_istore_n (lv' := [(0, .ref (ad 41)), (2, .int (zI 1)), (3, .int (zI y11)), (4, .int (zI x20)), (5, .int (zI y22))]) cx d_M_goesFrom_206 rfl (by decide) rfl rfl ?_
                                          refine v_iinc (lv' := [(0, .ref (ad 41)), (2, .int (zI 1)), (3, .int (zI y11)), (4, .int (zI x20)), (5, .int (zI (y22 + 1)))]) cx 4 d_M_goesFrom_207 rfl (by decide) rfl rfl ?_
                                          refine v_goto cx 113 d_M_goesFrom_210 (by decide) ?_
                                          obtain ⟨hI2, hz55, hm2⟩ := h
                                          exact ih113 _ _ _ (Nat.lt_of_lt_of_le hm2 (Nat.le_of_lt_succ hmm113)) hI2 ⟨by decide, by decide⟩ hz55
                                    · replace h := h.2 c36
                                      refine v_goto cx 207 d_M_goesFrom_146 (by decide) ?_
                                      refine v_iinc (lv' := [(0, .ref (ad 41)), (2, .int (zI y21)), (3, .int (zI y11)), (4, .int (zI x20)), (5, .int (zI (y22 + 1)))]) cx 4 d_M_goesFrom_207 rfl (by decide) rfl rfl ?_
                                      refine v_goto cx 113 d_M_goesFrom_210 (by decide) ?_
                                      obtain ⟨hI2, hz57, hm2⟩ := h
                                      exact ih113 _ _ _ (Nat.lt_of_lt_of_le hm2 (Nat.le_of_lt_succ hmm113)) hI2 hy21 hz57
                            exact L113 _ _ _ _ (Nat.lt_succ_self _) h0 hy10 ⟨by decide, by decide⟩
                          · replace h := h.2 c19
                            refine v_goto cx 213 d_M_goesFrom_101 (by decide) ?_
                            refine v_iinc (lv' := [(0, .ref (ad 41)), (2, .int (zI y10)), (3, .int (zI (y11 + 1)))]) cx 2 d_M_goesFrom_213 rfl (by decide) rfl rfl ?_
                            refine v_goto cx 79 d_M_goesFrom_216 (by decide) ?_
                            obtain ⟨hI2, hz59, hm2⟩ := h
                            exact ih79 _ _ _ (Nat.lt_of_lt_of_le hm2 (Nat.le_of_lt_succ hmm79)) hI2 hy10 hz59
                    exact L79 _ _ _ _ (Nat.lt_succ_self _) h0 ⟨by decide, by decide⟩ ⟨by decide, by decide⟩
              exact L71 _ _ _ (Nat.lt_succ_self _) h0 ⟨by decide, by decide⟩
            · replace h := h.2 c6
              refine v_aload_n cx 0 d_M_goesFrom_31 rfl rfl ?_
              refine v_iload_n cx 1 d_M_goesFrom_32 rfl rfl ?_
              refine v_iload_n cx 2 d_M_goesFrom_33 rfl rfl ?_
              refine v_callVz0 (st := []) cx (s_M_canStep hfrom_ hy4 h) yk_M_canStep lk_M_149 zl_41 rfl rfl rfl (Nat.le_of_ble_eq_true rfl) ⟨Nat.le_of_ble_eq_true rfl, Nat.le_of_ble_eq_true rfl⟩ ⟨rfl, rfl⟩ ⟨(Nat.le_of_ble_eq_true rfl), (Nat.le_of_ble_eq_true rfl)⟩ d_M_goesFrom_34 (fun r61 σ60 hr61 h => ?_)
              refine v_if_eq cx 63 d_M_goesFrom_37 (by decide) (zR_b hr61) (fun c62 => ?_) (fun c62 => ?_)
              · replace h := h.1 c62
                refine v_iinc (lv' := [(0, .ref (ad 41)), (1, .int (zI from_)), (2, .int (zI (y4 + 1)))]) cx 2 d_M_goesFrom_63 rfl (by decide) rfl rfl ?_
                refine v_goto cx 25 d_M_goesFrom_66 (by decide) ?_
                obtain ⟨hI2, hz64, hm2⟩ := h
                exact ih25 _ _ (Nat.lt_of_lt_of_le hm2 (Nat.le_of_lt_succ hmm25)) hI2 hz64
              · replace h := h.2 c62
                refine v_aload_n cx 0 d_M_goesFrom_40 rfl rfl ?_
                refine gf_M_41 cx d_M_goesFrom_41 ?_
                refine v_bipush cx (by decide) d_M_goesFrom_44 ?_
                refine v_aload_n cx 0 d_M_goesFrom_46 rfl rfl ?_
                refine v_iload_n cx 1 d_M_goesFrom_47 rfl rfl ?_
                refine v_iload_n cx 2 d_M_goesFrom_48 rfl rfl ?_
                refine v_callVi0 (st := [.int (zI 8), .ref (ad 51)]) cx (s_M_beside hfrom_ hy4 h) yk_M_beside lk_M_102 zl_41 rfl rfl rfl (Nat.le_of_ble_eq_true rfl) ⟨Nat.le_of_ble_eq_true rfl, Nat.le_of_ble_eq_true rfl⟩ ⟨rfl, rfl⟩ ⟨(Nat.le_of_ble_eq_true rfl), (Nat.le_of_ble_eq_true rfl)⟩ d_M_goesFrom_49 (fun r66 σ65 hr66 h => ?_)
                refine v_imul cx d_M_goesFrom_52 ?_
                refine v_iload_n cx 2 d_M_goesFrom_53 rfl rfl ?_
                refine v_iadd cx d_M_goesFrom_54 ?_
                refine v_aload_n cx 0 d_M_goesFrom_55 rfl rfl ?_
                refine v_iload_n cx 1 d_M_goesFrom_56 rfl rfl ?_
                refine v_iload_n cx 2 d_M_goesFrom_57 rfl rfl ?_
                refine v_iconst cx d_M_goesFrom_58 ?_
                refine v_callVi0 (st := [.int (zI ((8 * r66) + y4)), .ref (ad 51)]) cx (s_M_stepOf hfrom_ hy4 ⟨by decide, by decide⟩ h) yk_M_stepOf lk_M_139 zl_41 rfl rfl rfl (Nat.le_of_ble_eq_true rfl) ⟨Nat.le_of_ble_eq_true rfl, Nat.le_of_ble_eq_true rfl⟩ ⟨rfl, rfl⟩ ⟨(Nat.le_of_ble_eq_true rfl), (Nat.le_of_ble_eq_true rfl)⟩ d_M_goesFrom_59 (fun r68 σ67 hr68 h => ?_)
                obtain ⟨hb69, h⟩ := h
                refine v_iast cx zl_51 (by decide) hb69.1 hb69.2 hr68 d_M_goesFrom_62 ?_
                refine v_ns (fun σ70 eσ70 => ?_)
                replace h := h σ70 eσ70
                refine v_iinc (lv' := [(0, .ref (ad 41)), (1, .int (zI from_)), (2, .int (zI (y4 + 1)))]) cx 2 d_M_goesFrom_63 rfl (by decide) rfl rfl ?_
                refine v_goto cx 25 d_M_goesFrom_66 (by decide) ?_
                obtain ⟨hI2, hz72, hm2⟩ := h
                exact ih25 _ _ (Nat.lt_of_lt_of_le hm2 (Nat.le_of_lt_succ hmm25)) hI2 hz72
        exact L25 _ _ _ (Nat.lt_succ_self _) h0 ⟨by decide, by decide⟩
      · replace h := h.2 c3
        refine v_aload_n cx 0 d_M_goesFrom_9 rfl rfl ?_
        refine gf_M_41 cx d_M_goesFrom_10 ?_
        refine v_iload_n cx 2 d_M_goesFrom_13 rfl rfl ?_
        refine v_ldc cx ct_M_155 d_M_goesFrom_14 ?_
        obtain ⟨hb73, h⟩ := h
        refine v_iast cx zl_51 (by decide) hb73.1 hb73.2 ⟨by decide, by decide⟩ d_M_goesFrom_16 ?_
        refine v_ns (fun σ74 eσ74 => ?_)
        replace h := h σ74 eσ74
        refine v_iinc (lv' := [(0, .ref (ad 41)), (1, .int (zI from_)), (2, .int (zI (y1 + 1)))]) cx 2 d_M_goesFrom_17 rfl (by decide) rfl rfl ?_
        refine v_goto cx 2 d_M_goesFrom_20 (by decide) ?_
        obtain ⟨hI2, hz76, hm2⟩ := h
        exact ih2 _ _ (Nat.lt_of_lt_of_le hm2 (Nat.le_of_lt_succ hmm2)) hI2 hz76
  exact L2 _ _ _ (Nat.lt_succ_self _) h0 ⟨by decide, by decide⟩
def q_M_costAt (p : Int) (K : Int → zS → Prop) (σ : zS) : Prop :=
  ∃ (I5 : Int → Int → zS → Prop) (μ5 : Int → Int → zS → Nat), (I5 1000000000 0 σ) ∧ ∀ (y1 y2 : Int) (σ3 : zS), I5 y1 y2 σ3 → zR y1 → zR y2 → 
  (8 ≤ y2 →
    K y1 σ3) ∧ (y2 < 8 →
    (0 ≤ (8 * p) + y2 ∧ (8 * p) + y2 < 648) ∧ (q_M_lesser y1 (σ3 51 ((8 * p) + y2)) (fun r8 σ7 =>
        I5 r8 (y2 + 1) σ7 ∧ zR (y2 + 1) ∧ μ5 r8 (y2 + 1) σ7 < μ5 y1 y2 σ3) σ3))
abbrev rm_M_costAt : Room := { frames := 1, cells := 0, slots := 0, locals := 21 }
set_option maxRecDepth 20000 in
set_option maxHeartbeats 4000000 in
theorem s_M_costAt {Ω : zO} {ad : Nat → Nat} {p : Int} {K : Int → zS → Prop} {σ : zS} (hp : zR p) (h : q_M_costAt p K σ) : zMi Ω y_M_costAt (.code y_M_costAt c_M_costAt 4 (some .int)) rm_M_costAt zLy ad [.ref (ad 41), .int (zI p)] σ K := by
  refine z_ofi (lv := [(0, .ref (ad 41)), (1, .int (zI p))]) (by decide) rfl (Nat.le_of_ble_eq_true rfl) ?_
  intro Γ Q cx rt
  unfold q_M_costAt at h
  refine v_ldc cx ct_M_155 d_M_costAt_0 ?_
  refine v_istore_n (lv' := [(0, .ref (ad 41)), (1, .int (zI p)), (2, .int (zI 1000000000))]) cx d_M_costAt_2 rfl (by decide) rfl rfl ?_
  refine v_iconst cx d_M_costAt_3 ?_
  refine v_istore_n (lv' := [(0, .ref (ad 41)), (1, .int (zI p)), (2, .int (zI 1000000000)), (3, .int (zI 0))]) cx d_M_costAt_4 rfl (by decide) rfl rfl ?_
  obtain ⟨I5, μ5, h0, h⟩ := h
  have L5 : ∀ (N5 : Nat) (y1 y2 : Int) (σ3 : zS), μ5 y1 y2 σ3 < N5 → I5 y1 y2 σ3 → zR y1 → zR y2 → zV Ω Γ rm_M_costAt 4 Q 0 0 zLy ad σ3 5 [(0, .ref (ad 41)), (1, .int (zI p)), (2, .int (zI y1)), (3, .int (zI y2))] [] := by
    intro N5
    induction N5 with
    | zero => intro y1 y2 σ3 hm; exact absurd hm (Nat.not_lt_zero _)
    | succ N5 ih5 =>
      intro y1 y2 σ3 hmm5 hI hy1 hy2
      replace h := h y1 y2 σ3 hI hy1 hy2
      refine v_iload_n cx 3 d_M_costAt_5 rfl rfl ?_
      refine v_bipush cx (by decide) d_M_costAt_6 ?_
      refine v_icmp_ge cx 33 d_M_costAt_8 (by decide) hy2 ⟨by decide, by decide⟩ (fun c4 => ?_) (fun c4 => ?_)
      · replace h := h.1 c4
        refine v_iload_n cx 2 d_M_costAt_33 rfl rfl ?_
        exact rt _ _ _ _ _ _ (Nat.le_of_ble_eq_true rfl) (Nat.le_of_ble_eq_true rfl) d_M_costAt_34 hy1 h
      · replace h := h.2 c4
        refine v_iload_n cx 2 d_M_costAt_11 rfl rfl ?_
        refine v_aload_n cx 0 d_M_costAt_12 rfl rfl ?_
        refine gf_M_41 cx d_M_costAt_13 ?_
        refine v_bipush cx (by decide) d_M_costAt_16 ?_
        refine v_iload_n cx 1 d_M_costAt_18 rfl rfl ?_
        refine v_imul cx d_M_costAt_19 ?_
        refine v_iload_n cx 3 d_M_costAt_20 rfl rfl ?_
        refine v_iadd cx d_M_costAt_21 ?_
        obtain ⟨hb5, h⟩ := h
        refine v_iald cx zl_51 (by decide) hb5.1 hb5.2 d_M_costAt_22 (fun hl6 => ?_)
        refine v_callSi0 (st := []) cx (s_M_lesser hy1 hl6 h) yk_M_lesser lk_M_184 rfl rfl (Nat.le_of_ble_eq_true rfl) ⟨Nat.le_of_ble_eq_true rfl, Nat.le_of_ble_eq_true rfl⟩ ⟨rfl, rfl⟩ ⟨(Nat.le_of_ble_eq_true rfl), (Nat.le_of_ble_eq_true rfl)⟩ d_M_costAt_23 (fun r8 σ7 hr8 h => ?_)
        refine v_istore_n (lv' := [(0, .ref (ad 41)), (1, .int (zI p)), (2, .int (zI r8)), (3, .int (zI y2))]) cx d_M_costAt_26 rfl (by decide) rfl rfl ?_
        refine v_iinc (lv' := [(0, .ref (ad 41)), (1, .int (zI p)), (2, .int (zI r8)), (3, .int (zI (y2 + 1)))]) cx 3 d_M_costAt_27 rfl (by decide) rfl rfl ?_
        refine v_goto cx 5 d_M_costAt_30 (by decide) ?_
        obtain ⟨hI2, hz10, hm2⟩ := h
        exact ih5 _ _ _ (Nat.lt_of_lt_of_le hm2 (Nat.le_of_lt_succ hmm5)) hI2 hr8 hz10
  exact L5 _ _ _ _ (Nat.lt_succ_self _) h0 ⟨by decide, by decide⟩ ⟨by decide, by decide⟩
def q_M_isThere (from_ : Int) (to_ : Int) (K : Int → zS → Prop) (σ : zS) : Prop :=
  q_M_goesFrom from_ (fun σ1 =>
    q_M_costAt to_ (fun r3 σ2 =>
      (1000000000 ≤ r3 →
        K 0 σ2) ∧ (r3 < 1000000000 →
        K 1 σ2)) σ1) σ
abbrev rm_M_isThere : Room := { frames := 5, cells := 0, slots := 0, locals := 121 }
set_option maxRecDepth 20000 in
set_option maxHeartbeats 4000000 in
theorem s_M_isThere {Ω : zO} {ad : Nat → Nat} {from_ : Int} {to_ : Int} {K : Int → zS → Prop} {σ : zS} (hfrom_ : zR from_) (hto_ : zR to_) (h : q_M_isThere from_ to_ K σ) : zMz Ω y_M_isThere (.code y_M_isThere c_M_isThere 3 (some .boolean)) rm_M_isThere zLy ad [.ref (ad 41), .int (zI from_), .int (zI to_)] σ K := by
  refine z_ofz (lv := [(0, .ref (ad 41)), (1, .int (zI from_)), (2, .int (zI to_))]) (by decide) rfl (Nat.le_of_ble_eq_true rfl) ?_
  intro Γ Q cx rt
  unfold q_M_isThere at h
  refine v_aload_n cx 0 d_M_isThere_0 rfl rfl ?_
  refine v_iload_n cx 1 d_M_isThere_1 rfl rfl ?_
  refine v_callVv0 (st := []) cx (s_M_goesFrom hfrom_ h) yk_M_goesFrom lk_M_187 zl_41 rfl rfl rfl (Nat.le_of_ble_eq_true rfl) ⟨Nat.le_of_ble_eq_true rfl, Nat.le_of_ble_eq_true rfl⟩ ⟨rfl, rfl⟩ ⟨(Nat.le_of_ble_eq_true rfl), (Nat.le_of_ble_eq_true rfl)⟩ d_M_isThere_2 (fun σ1 h => ?_)
  refine v_aload_n cx 0 d_M_isThere_5 rfl rfl ?_
  refine v_iload_n cx 2 d_M_isThere_6 rfl rfl ?_
  refine v_callVi0 (st := []) cx (s_M_costAt hto_ h) yk_M_costAt lk_M_191 zl_41 rfl rfl rfl (Nat.le_of_ble_eq_true rfl) ⟨Nat.le_of_ble_eq_true rfl, Nat.le_of_ble_eq_true rfl⟩ ⟨rfl, rfl⟩ ⟨(Nat.le_of_ble_eq_true rfl), (Nat.le_of_ble_eq_true rfl)⟩ d_M_isThere_7 (fun r3 σ2 hr3 h => ?_)
  refine v_ldc cx ct_M_155 d_M_isThere_10 ?_
  refine v_icmp_ge cx 19 d_M_isThere_12 (by decide) hr3 ⟨by decide, by decide⟩ (fun c4 => ?_) (fun c4 => ?_)
  · replace h := h.1 c4
    refine v_iconst cx d_M_isThere_19 ?_
    exact rt _ _ _ _ _ _ (Nat.le_of_ble_eq_true rfl) (Nat.le_of_ble_eq_true rfl) d_M_isThere_20 (Or.inl rfl) h
  · replace h := h.2 c4
    refine v_iconst cx d_M_isThere_15 ?_
    refine v_goto cx 20 d_M_isThere_16 (by decide) ?_
    exact rt _ _ _ _ _ _ (Nat.le_of_ble_eq_true rfl) (Nat.le_of_ble_eq_true rfl) d_M_isThere_20 (Or.inr rfl) h
def q_M_isEdge (p : Int) (K : Int → zS → Prop) (σ : zS) : Prop :=
  (σ 42 0) ≠ 0 ∧ ((σ 42 0) ≠ -1 ∧ (∀ x4 : Int, x4 = Int.tdiv p (σ 42 0) → (σ 42 0) ≠ 0 ∧ (∀ x7 : Int, x7 = Int.tmod p (σ 42 0) → zR x4 ∧ ((x4 = 0 →
            K 1 σ) ∧ (x4 ≠ 0 →
            zR ((σ 42 1) - 1) ∧ ((x4 = ((σ 42 1) - 1) →
                K 1 σ) ∧ (x4 ≠ ((σ 42 1) - 1) →
                zR x7 ∧ ((x7 = 0 →
                    K 1 σ) ∧ (x7 ≠ 0 →
                    zR ((σ 42 0) - 1) ∧ ((x7 ≠ ((σ 42 0) - 1) →
                        K 0 σ) ∧ (x7 = ((σ 42 0) - 1) →
                        K 1 σ)))))))))))
abbrev rm_M_isEdge : Room := { frames := 0, cells := 0, slots := 0, locals := 0 }
set_option maxRecDepth 20000 in
set_option maxHeartbeats 4000000 in
theorem s_M_isEdge {Ω : zO} {ad : Nat → Nat} {p : Int} {K : Int → zS → Prop} {σ : zS} (hp : zR p) (h : q_M_isEdge p K σ) : zMz Ω y_M_isEdge (.code y_M_isEdge c_M_isEdge 4 (some .boolean)) rm_M_isEdge zLy ad [.ref (ad 41), .int (zI p)] σ K := by
  refine z_ofz (lv := [(0, .ref (ad 41)), (1, .int (zI p))]) (by decide) rfl (Nat.le_of_ble_eq_true rfl) ?_
  intro Γ Q cx rt
  unfold q_M_isEdge at h
  refine v_iload_n cx 1 d_M_isEdge_0 rfl rfl ?_
  refine v_aload_n cx 0 d_M_isEdge_1 rfl rfl ?_
  refine gf_M_7 cx d_M_isEdge_2 ?_
  refine v_iconst cx d_M_isEdge_5 ?_
  refine v_iald cx zl_42 (by decide) (by decide) (by decide) d_M_isEdge_6 (fun hl1 => ?_)
  obtain ⟨hz2, h⟩ := h
  obtain ⟨hz3, h⟩ := h
  refine v_idiv cx d_M_isEdge_7 hp hl1 hz2 (Or.inr hz3) ?_
  refine v_nm (fun x4 ex4 => ?_)
  replace h := h x4 ex4
  refine v_istore_n (lv' := [(0, .ref (ad 41)), (1, .int (zI p)), (2, .int (zI x4))]) cx d_M_isEdge_8 rfl (by decide) rfl rfl ?_
  refine v_iload_n cx 1 d_M_isEdge_9 rfl rfl ?_
  refine v_aload_n cx 0 d_M_isEdge_10 rfl rfl ?_
  refine gf_M_7 cx d_M_isEdge_11 ?_
  refine v_iconst cx d_M_isEdge_14 ?_
  refine v_iald cx zl_42 (by decide) (by decide) (by decide) d_M_isEdge_15 (fun hl5 => ?_)
  obtain ⟨hz6, h⟩ := h
  refine v_irem cx d_M_isEdge_16 hp hl5 hz6 ?_
  refine v_nm (fun x7 ex7 => ?_)
  replace h := h x7 ex7
  refine v_istore_n (lv' := [(0, .ref (ad 41)), (1, .int (zI p)), (2, .int (zI x4)), (3, .int (zI x7))]) cx d_M_isEdge_17 rfl (by decide) rfl rfl ?_
  refine v_iload_n cx 2 d_M_isEdge_18 rfl rfl ?_
  obtain ⟨hr8, h⟩ := h
  refine v_if_eq cx 50 d_M_isEdge_19 (by decide) hr8 (fun c9 => ?_) (fun c9 => ?_)
  · replace h := h.1 c9
    refine v_iconst cx d_M_isEdge_50 ?_
    refine v_goto cx 55 d_M_isEdge_51 (by decide) ?_
    exact rt _ _ _ _ _ _ (Nat.le_of_ble_eq_true rfl) (Nat.le_of_ble_eq_true rfl) d_M_isEdge_55 (Or.inr rfl) h
  · replace h := h.2 c9
    refine v_iload_n cx 2 d_M_isEdge_22 rfl rfl ?_
    refine v_aload_n cx 0 d_M_isEdge_23 rfl rfl ?_
    refine gf_M_7 cx d_M_isEdge_24 ?_
    refine v_iconst cx d_M_isEdge_27 ?_
    refine v_iald cx zl_42 (by decide) (by decide) (by decide) d_M_isEdge_28 (fun hl10 => ?_)
    refine v_iconst cx d_M_isEdge_29 ?_
    refine v_isub cx d_M_isEdge_30 ?_
    obtain ⟨hr11, h⟩ := h
    refine v_icmp_eq cx 50 d_M_isEdge_31 (by decide) hr8 hr11 (fun c12 => ?_) (fun c12 => ?_)
    · replace h := h.1 c12
      refine v_iconst cx d_M_isEdge_50 ?_
      refine v_goto cx 55 d_M_isEdge_51 (by decide) ?_
      exact rt _ _ _ _ _ _ (Nat.le_of_ble_eq_true rfl) (Nat.le_of_ble_eq_true rfl) d_M_isEdge_55 (Or.inr rfl) h
    · replace h := h.2 c12
      refine v_iload_n cx 3 d_M_isEdge_34 rfl rfl ?_
      obtain ⟨hr13, h⟩ := h
      refine v_if_eq cx 50 d_M_isEdge_35 (by decide) hr13 (fun c14 => ?_) (fun c14 => ?_)
      · replace h := h.1 c14
        refine v_iconst cx d_M_isEdge_50 ?_
        refine v_goto cx 55 d_M_isEdge_51 (by decide) ?_
        exact rt _ _ _ _ _ _ (Nat.le_of_ble_eq_true rfl) (Nat.le_of_ble_eq_true rfl) d_M_isEdge_55 (Or.inr rfl) h
      · replace h := h.2 c14
        refine v_iload_n cx 3 d_M_isEdge_38 rfl rfl ?_
        refine v_aload_n cx 0 d_M_isEdge_39 rfl rfl ?_
        refine gf_M_7 cx d_M_isEdge_40 ?_
        refine v_iconst cx d_M_isEdge_43 ?_
        refine v_iald cx zl_42 (by decide) (by decide) (by decide) d_M_isEdge_44 (fun hl15 => ?_)
        refine v_iconst cx d_M_isEdge_45 ?_
        refine v_isub cx d_M_isEdge_46 ?_
        obtain ⟨hr16, h⟩ := h
        refine v_icmp_ne cx 54 d_M_isEdge_47 (by decide) hr13 hr16 (fun c17 => ?_) (fun c17 => ?_)
        · replace h := h.1 c17
          refine v_iconst cx d_M_isEdge_54 ?_
          exact rt _ _ _ _ _ _ (Nat.le_of_ble_eq_true rfl) (Nat.le_of_ble_eq_true rfl) d_M_isEdge_55 (Or.inl rfl) h
        · replace h := h.2 c17
          refine v_iconst cx d_M_isEdge_50 ?_
          refine v_goto cx 55 d_M_isEdge_51 (by decide) ?_
          exact rt _ _ _ _ _ _ (Nat.le_of_ble_eq_true rfl) (Nat.le_of_ble_eq_true rfl) d_M_isEdge_55 (Or.inr rfl) h
def q_M_sinks (p : Int) (K : Int → zS → Prop) (σ : zS) : Prop :=
  ∃ (I4 : Int → Int → zS → Prop) (μ4 : Int → Int → zS → Nat), (I4 0 0 σ) ∧ ∀ (y1 y2 : Int) (σ3 : zS), I4 y1 y2 σ3 → zR y1 → zR y2 → 
  (8 ≤ y2 →
    (y1 = 0 ∨ y1 = 1) ∧ (K y1 σ3)) ∧ (y2 < 8 →
    q_M_beside p y2 (fun r7 σ6 =>
      (r7 ≠ (-1) →
        (0 ≤ r7 ∧ r7 < 81) ∧ ((0 ≤ 13 + p ∧ 13 + p < 499) ∧ (∃ J65 : Int → Prop, (∀ (w13 : Int), J65 w13 → zR w13 → 
              (0 ≤ p ∧ p < 81) ∧ ((w13 < (σ6 63 p) →
                  ∀ σ17 : zS, σ17 = zU σ6 63 p w13 → I4 1 (y2 + 1) σ17 ∧ zR (y2 + 1) ∧ μ4 1 (y2 + 1) σ17 < μ4 y1 y2 σ3) ∧ ((σ6 63 p) ≤ w13 →
                  I4 y1 (y2 + 1) σ6 ∧ zR (y2 + 1) ∧ μ4 y1 (y2 + 1) σ6 < μ4 y1 y2 σ3))) ∧
            (((σ6 63 r7) ≤ (σ6 42 (13 + p)) →
                J65 (σ6 42 (13 + p))) ∧ ((σ6 42 (13 + p)) < (σ6 63 r7) →
                J65 (σ6 63 r7)))))) ∧ (r7 = (-1) →
        I4 y1 (y2 + 1) σ6 ∧ zR (y2 + 1) ∧ μ4 y1 (y2 + 1) σ6 < μ4 y1 y2 σ3)) σ3)
abbrev rm_M_sinks : Room := { frames := 2, cells := 0, slots := 0, locals := 46 }
set_option maxRecDepth 20000 in
set_option maxHeartbeats 4000000 in
theorem s_M_sinks {Ω : zO} {ad : Nat → Nat} {p : Int} {K : Int → zS → Prop} {σ : zS} (hp : zR p) (h : q_M_sinks p K σ) : zMz Ω y_M_sinks (.code y_M_sinks c_M_sinks 6 (some .boolean)) rm_M_sinks zLy ad [.ref (ad 41), .int (zI p)] σ K := by
  refine z_ofz (lv := [(0, .ref (ad 41)), (1, .int (zI p))]) (by decide) rfl (Nat.le_of_ble_eq_true rfl) ?_
  intro Γ Q cx rt
  unfold q_M_sinks at h
  refine v_iconst cx d_M_sinks_0 ?_
  refine v_istore_n (lv' := [(0, .ref (ad 41)), (1, .int (zI p)), (2, .int (zI 0))]) cx d_M_sinks_1 rfl (by decide) rfl rfl ?_
  refine v_iconst cx d_M_sinks_2 ?_
  refine v_istore_n (lv' := [(0, .ref (ad 41)), (1, .int (zI p)), (2, .int (zI 0)), (3, .int (zI 0))]) cx d_M_sinks_3 rfl (by decide) rfl rfl ?_
  obtain ⟨I4, μ4, h0, h⟩ := h
  have L4 : ∀ (N4 : Nat) (y1 y2 : Int) (σ3 : zS), μ4 y1 y2 σ3 < N4 → I4 y1 y2 σ3 → zR y1 → zR y2 → zV Ω Γ rm_M_sinks 6 Q 0 0 zLy ad σ3 4 [(0, .ref (ad 41)), (1, .int (zI p)), (2, .int (zI y1)), (3, .int (zI y2))] [] := by
    intro N4
    induction N4 with
    | zero => intro y1 y2 σ3 hm; exact absurd hm (Nat.not_lt_zero _)
    | succ N4 ih4 =>
      intro y1 y2 σ3 hmm4 hI hy1 hy2
      replace h := h y1 y2 σ3 hI hy1 hy2
      refine v_iload_n cx 3 d_M_sinks_4 rfl rfl ?_
      refine v_bipush cx (by decide) d_M_sinks_5 ?_
      refine v_icmp_ge cx 97 d_M_sinks_7 (by decide) hy2 ⟨by decide, by decide⟩ (fun c4 => ?_) (fun c4 => ?_)
      · replace h := h.1 c4
        refine v_iload_n cx 2 d_M_sinks_97 rfl rfl ?_
        obtain ⟨hz5, h⟩ := h
        exact rt _ _ _ _ _ _ (Nat.le_of_ble_eq_true rfl) (Nat.le_of_ble_eq_true rfl) d_M_sinks_98 hz5 h
      · replace h := h.2 c4
        refine v_aload_n cx 0 d_M_sinks_10 rfl rfl ?_
        refine v_iload_n cx 1 d_M_sinks_11 rfl rfl ?_
        refine v_iload_n cx 3 d_M_sinks_12 rfl rfl ?_
        refine v_callVi0 (st := []) cx (s_M_beside hp hy2 h) yk_M_beside lk_M_102 zl_41 rfl rfl rfl (Nat.le_of_ble_eq_true rfl) ⟨Nat.le_of_ble_eq_true rfl, Nat.le_of_ble_eq_true rfl⟩ ⟨rfl, rfl⟩ ⟨(Nat.le_of_ble_eq_true rfl), (Nat.le_of_ble_eq_true rfl)⟩ d_M_sinks_13 (fun r7 σ6 hr7 h => ?_)
        refine v_istore (lv' := [(0, .ref (ad 41)), (1, .int (zI p)), (2, .int (zI y1)), (3, .int (zI y2)), (4, .int (zI r7))]) cx d_M_sinks_16 (by decide) rfl rfl ?_
        refine v_iload cx 4 d_M_sinks_18 rfl ?_
        refine v_iconst cx d_M_sinks_20 ?_
        refine v_icmp_ne cx 27 d_M_sinks_21 (by decide) hr7 ⟨by decide, by decide⟩ (fun c8 => ?_) (fun c8 => ?_)
        · replace h := h.1 c8
          refine v_aload_n cx 0 d_M_sinks_27 rfl rfl ?_
          refine gf_M_84 cx d_M_sinks_28 ?_
          refine v_iload cx 4 d_M_sinks_31 rfl ?_
          obtain ⟨hb9, h⟩ := h
          refine v_iald cx zl_63 (by decide) hb9.1 hb9.2 d_M_sinks_33 (fun hl10 => ?_)
          refine v_aload_n cx 0 d_M_sinks_34 rfl rfl ?_
          refine gf_M_7 cx d_M_sinks_35 ?_
          refine v_bipush cx (by decide) d_M_sinks_38 ?_
          refine v_iload_n cx 1 d_M_sinks_40 rfl rfl ?_
          refine v_iadd cx d_M_sinks_41 ?_
          obtain ⟨hb11, h⟩ := h
          refine v_iald cx zl_42 (by decide) hb11.1 hb11.2 d_M_sinks_42 (fun hl12 => ?_)
          obtain ⟨J65, hJ65, h⟩ := h
          have G65 : ∀ (w13 : Int), J65 w13 → zR w13 → zV Ω Γ rm_M_sinks 6 Q 0 0 zLy ad σ6 65 [(0, .ref (ad 41)), (1, .int (zI p)), (2, .int (zI y1)), (3, .int (zI y2))] [.int (zI w13)] := by
            intro w13 hJ hw13
            replace h := hJ65 w13 hJ hw13
            refine v_istore (lv' := [(0, .ref (ad 41)), (1, .int (zI p)), (2, .int (zI y1)), (3, .int (zI y2)), (5, .int (zI w13))]) cx d_M_sinks_65 (by decide) rfl rfl ?_
            refine v_iload cx 4 d_M_sinks_67 rfl ?_
            refine v_aload_n cx 0 d_M_sinks_69 rfl rfl ?_
            refine gf_M_84 cx d_M_sinks_70 ?_
            refine v_iload_n cx 1 d_M_sinks_73 rfl rfl ?_
            obtain ⟨hb14, h⟩ := h
            refine v_iald cx zl_63 (by decide) hb14.1 hb14.2 d_M_sinks_74 (fun hl15 => ?_)
            refine v_icmp_lt cx 81 d_M_sinks_75 (by decide) hw13 hl15 (fun c16 => ?_) (fun c16 => ?_)
            · replace h := h.1 c16
              refine v_aload_n cx 0 d_M_sinks_81 rfl rfl ?_
              refine gf_M_84 cx d_M_sinks_82 ?_
              refine v_iload_n cx 1 d_M_sinks_85 rfl rfl ?_
              refine v_iload cx 4 d_M_sinks_86 rfl ?_
              refine v_iast cx zl_63 (by decide) hb14.1 hb14.2 hw13 d_M_sinks_88 ?_
              refine v_ns (fun σ17 eσ17 => ?_)
              replace h := h σ17 eσ17
              refine v_iconst cx d_M_sinks_89 ?_
              refine v_istore_n (lv' := [(0, .ref (ad 41)), (1, .int (zI p)), (2, .int (zI 1)), (3, .int (zI y2)), (5, .int (zI w13))]) cx d_M_sinks_90 rfl (by decide) rfl rfl ?_
              refine v_iinc (lv' := [(0, .ref (ad 41)), (1, .int (zI p)), (2, .int (zI 1)), (3, .int (zI (y2 + 1))), (5, .int (zI w13))]) cx 3 d_M_sinks_91 rfl (by decide) rfl rfl ?_
              refine v_goto cx 4 d_M_sinks_94 (by decide) ?_
              refine v_sb (lv' := [(0, .ref (ad 41)), (1, .int (zI p)), (2, .int (zI 1)), (3, .int (zI (y2 + 1)))]) [0, 1, 2, 3] rfl ?_
              obtain ⟨hI2, hz19, hm2⟩ := h
              exact ih4 _ _ _ (Nat.lt_of_lt_of_le hm2 (Nat.le_of_lt_succ hmm4)) hI2 ⟨by decide, by decide⟩ hz19
            · replace h := h.2 c16
              refine v_goto cx 91 d_M_sinks_78 (by decide) ?_
              refine v_iinc (lv' := [(0, .ref (ad 41)), (1, .int (zI p)), (2, .int (zI y1)), (3, .int (zI (y2 + 1))), (5, .int (zI w13))]) cx 3 d_M_sinks_91 rfl (by decide) rfl rfl ?_
              refine v_goto cx 4 d_M_sinks_94 (by decide) ?_
              refine v_sb (lv' := [(0, .ref (ad 41)), (1, .int (zI p)), (2, .int (zI y1)), (3, .int (zI (y2 + 1)))]) [0, 1, 2, 3] rfl ?_
              obtain ⟨hI2, hz21, hm2⟩ := h
              exact ih4 _ _ _ (Nat.lt_of_lt_of_le hm2 (Nat.le_of_lt_succ hmm4)) hI2 hy1 hz21
          refine v_icmp_le cx 56 d_M_sinks_43 (by decide) hl10 hl12 (fun c22 => ?_) (fun c22 => ?_)
          · replace h := h.1 c22
            refine v_aload_n cx 0 d_M_sinks_56 rfl rfl ?_
            refine gf_M_7 cx d_M_sinks_57 ?_
            refine v_bipush cx (by decide) d_M_sinks_60 ?_
            refine v_iload_n cx 1 d_M_sinks_62 rfl rfl ?_
            refine v_iadd cx d_M_sinks_63 ?_
            refine v_iald cx zl_42 (by decide) hb11.1 hb11.2 d_M_sinks_64 (fun hl23 => ?_)
            refine v_sb (lv' := [(0, .ref (ad 41)), (1, .int (zI p)), (2, .int (zI y1)), (3, .int (zI y2))]) [0, 1, 2, 3] rfl ?_
            have hJ2 := h
            exact G65 _ hJ2 hl23
          · replace h := h.2 c22
            refine v_aload_n cx 0 d_M_sinks_46 rfl rfl ?_
            refine gf_M_84 cx d_M_sinks_47 ?_
            refine v_iload cx 4 d_M_sinks_50 rfl ?_
            refine v_iald cx zl_63 (by decide) hb9.1 hb9.2 d_M_sinks_52 (fun hl24 => ?_)
            refine v_goto cx 65 d_M_sinks_53 (by decide) ?_
            refine v_sb (lv' := [(0, .ref (ad 41)), (1, .int (zI p)), (2, .int (zI y1)), (3, .int (zI y2))]) [0, 1, 2, 3] rfl ?_
            have hJ2 := h
            exact G65 _ hJ2 hl24
        · replace h := h.2 c8
          refine v_goto cx 91 d_M_sinks_24 (by decide) ?_
          refine v_iinc (lv' := [(0, .ref (ad 41)), (1, .int (zI p)), (2, .int (zI y1)), (3, .int (zI (y2 + 1))), (4, .int (zI r7))]) cx 3 d_M_sinks_91 rfl (by decide) rfl rfl ?_
          refine v_goto cx 4 d_M_sinks_94 (by decide) ?_
          refine v_sb (lv' := [(0, .ref (ad 41)), (1, .int (zI p)), (2, .int (zI y1)), (3, .int (zI (y2 + 1)))]) [0, 1, 2, 3] rfl ?_
          obtain ⟨hI2, hz26, hm2⟩ := h
          exact ih4 _ _ _ (Nat.lt_of_lt_of_le hm2 (Nat.le_of_lt_succ hmm4)) hI2 hy1 hz26
  exact L4 _ _ _ _ (Nat.lt_succ_self _) h0 ⟨by decide, by decide⟩ ⟨by decide, by decide⟩
def q_M_spillOf (place : Int) (K : Int → zS → Prop) (σ : zS) : Prop :=
  ∃ (I2 : Int → zS → Prop) (μ2 : Int → zS → Nat), (I2 0 σ) ∧ ∀ (y1 : Int) (σ2 : zS), I2 y1 σ2 → zR y1 → 
  q_M_places (fun r4 σ3 =>
    (r4 ≤ y1 →
      ∃ (I46 : Int → zS → Prop) (μ46 : Int → zS → Nat), (I46 1 σ3) ∧ ∀ (y6 : Int) (σ7 : zS), I46 y6 σ7 → zR y6 → 
      (y6 = 0 →
        (0 ≤ place ∧ place < 81) ∧ (K (σ7 63 place) σ7)) ∧ (y6 ≠ 0 →
        ∃ (I54 : Int → Int → zS → Prop) (μ54 : Int → Int → zS → Nat), (I54 0 0 σ7) ∧ ∀ (y11 y12 : Int) (σ13 : zS), I54 y11 y12 σ13 → zR y11 → zR y12 → 
        q_M_places (fun r15 σ14 =>
          (r15 ≤ y12 →
            I46 y11 σ14 ∧ μ46 y11 σ14 < μ46 y6 σ7) ∧ (y12 < r15 →
            q_M_sinks y12 (fun r18 σ17 =>
              (r18 ≠ 0 →
                I54 1 (y12 + 1) σ17 ∧ zR (y12 + 1) ∧ μ54 1 (y12 + 1) σ17 < μ54 y11 y12 σ13) ∧ (r18 = 0 →
                (y11 = 0 →
                  I54 0 (y12 + 1) σ17 ∧ zR (y12 + 1) ∧ μ54 0 (y12 + 1) σ17 < μ54 y11 y12 σ13) ∧ (y11 ≠ 0 →
                  I54 1 (y12 + 1) σ17 ∧ zR (y12 + 1) ∧ μ54 1 (y12 + 1) σ17 < μ54 y11 y12 σ13))) σ14)) σ13)) ∧ (y1 < r4 →
      q_M_isEdge y1 (fun r28 σ27 =>
        (r28 = 0 →
          (0 ≤ y1 ∧ y1 < 81) ∧ (∀ σ31 : zS, σ31 = zU σ27 63 y1 1000000000 → I2 (y1 + 1) σ31 ∧ zR (y1 + 1) ∧ μ2 (y1 + 1) σ31 < μ2 y1 σ2)) ∧ (r28 ≠ 0 →
          (0 ≤ 13 + y1 ∧ 13 + y1 < 499) ∧ ((0 ≤ y1 ∧ y1 < 81) ∧ (∀ σ37 : zS, σ37 = zU σ27 63 y1 (σ27 42 (13 + y1)) → I2 (y1 + 1) σ37 ∧ zR (y1 + 1) ∧ μ2 (y1 + 1) σ37 < μ2 y1 σ2)))) σ3)) σ2
abbrev rm_M_spillOf : Room := { frames := 3, cells := 0, slots := 0, locals := 71 }
set_option maxRecDepth 20000 in
set_option maxHeartbeats 4000000 in
theorem s_M_spillOf {Ω : zO} {ad : Nat → Nat} {place : Int} {K : Int → zS → Prop} {σ : zS} (hplace : zR place) (h : q_M_spillOf place K σ) : zMi Ω y_M_spillOf (.code y_M_spillOf c_M_spillOf 4 (some .int)) rm_M_spillOf zLy ad [.ref (ad 41), .int (zI place)] σ K := by
  refine z_ofi (lv := [(0, .ref (ad 41)), (1, .int (zI place))]) (by decide) rfl (Nat.le_of_ble_eq_true rfl) ?_
  intro Γ Q cx rt
  unfold q_M_spillOf at h
  refine v_iconst cx d_M_spillOf_0 ?_
  refine v_istore_n (lv' := [(0, .ref (ad 41)), (1, .int (zI place)), (2, .int (zI 0))]) cx d_M_spillOf_1 rfl (by decide) rfl rfl ?_
  obtain ⟨I2, μ2, h0, h⟩ := h
  have L2 : ∀ (N2 : Nat) (y1 : Int) (σ2 : zS), μ2 y1 σ2 < N2 → I2 y1 σ2 → zR y1 → zV Ω Γ rm_M_spillOf 4 Q 0 0 zLy ad σ2 2 [(0, .ref (ad 41)), (1, .int (zI place)), (2, .int (zI y1))] [] := by
    intro N2
    induction N2 with
    | zero => intro y1 σ2 hm; exact absurd hm (Nat.not_lt_zero _)
    | succ N2 ih2 =>
      intro y1 σ2 hmm2 hI hy1
      replace h := h y1 σ2 hI hy1
      refine v_iload_n cx 2 d_M_spillOf_2 rfl rfl ?_
      refine v_aload_n cx 0 d_M_spillOf_3 rfl rfl ?_
      refine v_callVi0 (st := [.int (zI y1)]) cx (s_M_places  h) yk_M_places lk_M_90 zl_41 rfl rfl rfl (Nat.le_of_ble_eq_true rfl) ⟨Nat.le_of_ble_eq_true rfl, Nat.le_of_ble_eq_true rfl⟩ ⟨rfl, rfl⟩ ⟨(Nat.le_of_ble_eq_true rfl), (Nat.le_of_ble_eq_true rfl)⟩ d_M_spillOf_4 (fun r4 σ3 hr4 h => ?_)
      refine v_icmp_ge cx 44 d_M_spillOf_7 (by decide) hy1 hr4 (fun c5 => ?_) (fun c5 => ?_)
      · replace h := h.1 c5
        refine v_iconst cx d_M_spillOf_44 ?_
        refine v_istore_n (lv' := [(0, .ref (ad 41)), (1, .int (zI place)), (2, .int (zI 1))]) cx d_M_spillOf_45 rfl (by decide) rfl rfl ?_
        obtain ⟨I46, μ46, h0, h⟩ := h
        have L46 : ∀ (N46 : Nat) (y6 : Int) (σ7 : zS), μ46 y6 σ7 < N46 → I46 y6 σ7 → zR y6 → zV Ω Γ rm_M_spillOf 4 Q 0 0 zLy ad σ7 46 [(0, .ref (ad 41)), (1, .int (zI place)), (2, .int (zI y6))] [] := by
          intro N46
          induction N46 with
          | zero => intro y6 σ7 hm; exact absurd hm (Nat.not_lt_zero _)
          | succ N46 ih46 =>
            intro y6 σ7 hmm46 hI hy6
            replace h := h y6 σ7 hI hy6
            refine v_iload_n cx 2 d_M_spillOf_46 rfl rfl ?_
            refine v_if_eq cx 89 d_M_spillOf_47 (by decide) hy6 (fun c8 => ?_) (fun c8 => ?_)
            · replace h := h.1 c8
              refine v_aload_n cx 0 d_M_spillOf_89 rfl rfl ?_
              refine gf_M_84 cx d_M_spillOf_90 ?_
              refine v_iload_n cx 1 d_M_spillOf_93 rfl rfl ?_
              obtain ⟨hb9, h⟩ := h
              refine v_iald cx zl_63 (by decide) hb9.1 hb9.2 d_M_spillOf_94 (fun hl10 => ?_)
              exact rt _ _ _ _ _ _ (Nat.le_of_ble_eq_true rfl) (Nat.le_of_ble_eq_true rfl) d_M_spillOf_95 hl10 h
            · replace h := h.2 c8
              refine v_iconst cx d_M_spillOf_50 ?_
              refine v_istore_n (lv' := [(0, .ref (ad 41)), (1, .int (zI place)), (2, .int (zI 0))]) cx d_M_spillOf_51 rfl (by decide) rfl rfl ?_
              refine v_iconst cx d_M_spillOf_52 ?_
              refine v_istore_n (lv' := [(0, .ref (ad 41)), (1, .int (zI place)), (2, .int (zI 0)), (3, .int (zI 0))]) cx d_M_spillOf_53 rfl (by decide) rfl rfl ?_
              obtain ⟨I54, μ54, h0, h⟩ := h
              have L54 : ∀ (N54 : Nat) (y11 y12 : Int) (σ13 : zS), μ54 y11 y12 σ13 < N54 → I54 y11 y12 σ13 → zR y11 → zR y12 → zV Ω Γ rm_M_spillOf 4 Q 0 0 zLy ad σ13 54 [(0, .ref (ad 41)), (1, .int (zI place)), (2, .int (zI y11)), (3, .int (zI y12))] [] := by
                intro N54
                induction N54 with
                | zero => intro y11 y12 σ13 hm; exact absurd hm (Nat.not_lt_zero _)
                | succ N54 ih54 =>
                  intro y11 y12 σ13 hmm54 hI hy11 hy12
                  replace h := h y11 y12 σ13 hI hy11 hy12
                  refine v_iload_n cx 3 d_M_spillOf_54 rfl rfl ?_
                  refine v_aload_n cx 0 d_M_spillOf_55 rfl rfl ?_
                  refine v_callVi0 (st := [.int (zI y12)]) cx (s_M_places  h) yk_M_places lk_M_90 zl_41 rfl rfl rfl (Nat.le_of_ble_eq_true rfl) ⟨Nat.le_of_ble_eq_true rfl, Nat.le_of_ble_eq_true rfl⟩ ⟨rfl, rfl⟩ ⟨(Nat.le_of_ble_eq_true rfl), (Nat.le_of_ble_eq_true rfl)⟩ d_M_spillOf_56 (fun r15 σ14 hr15 h => ?_)
                  refine v_icmp_ge cx 86 d_M_spillOf_59 (by decide) hy12 hr15 (fun c16 => ?_) (fun c16 => ?_)
                  · replace h := h.1 c16
                    refine v_goto cx 46 d_M_spillOf_86 (by decide) ?_
                    refine v_sb (lv' := [(0, .ref (ad 41)), (1, .int (zI place)), (2, .int (zI y11))]) [0, 1, 2] rfl ?_
                    obtain ⟨hI2, hm2⟩ := h
                    exact ih46 _ _ (Nat.lt_of_lt_of_le hm2 (Nat.le_of_lt_succ hmm46)) hI2 hy11
                  · replace h := h.2 c16
                    refine v_aload_n cx 0 d_M_spillOf_62 rfl rfl ?_
                    refine v_iload_n cx 3 d_M_spillOf_63 rfl rfl ?_
                    refine v_callVz0 (st := []) cx (s_M_sinks hy12 h) yk_M_sinks lk_M_200 zl_41 rfl rfl rfl (Nat.le_of_ble_eq_true rfl) ⟨Nat.le_of_ble_eq_true rfl, Nat.le_of_ble_eq_true rfl⟩ ⟨rfl, rfl⟩ ⟨(Nat.le_of_ble_eq_true rfl), (Nat.le_of_ble_eq_true rfl)⟩ d_M_spillOf_64 (fun r18 σ17 hr18 h => ?_)
                    refine v_if_ne cx 74 d_M_spillOf_67 (by decide) (zR_b hr18) (fun c19 => ?_) (fun c19 => ?_)
                    · replace h := h.1 c19
                      refine v_iconst cx d_M_spillOf_74 ?_
                      refine v_goto cx 79 d_M_spillOf_75 (by decide) ?_
                      refine v_istore_n (lv' := [(0, .ref (ad 41)), (1, .int (zI place)), (2, .int (zI 1)), (3, .int (zI y12))]) cx d_M_spillOf_79 rfl (by decide) rfl rfl ?_
                      refine v_iinc (lv' := [(0, .ref (ad 41)), (1, .int (zI place)), (2, .int (zI 1)), (3, .int (zI (y12 + 1)))]) cx 3 d_M_spillOf_80 rfl (by decide) rfl rfl ?_
                      refine v_goto cx 54 d_M_spillOf_83 (by decide) ?_
                      obtain ⟨hI2, hz21, hm2⟩ := h
                      exact ih54 _ _ _ (Nat.lt_of_lt_of_le hm2 (Nat.le_of_lt_succ hmm54)) hI2 ⟨by decide, by decide⟩ hz21
                    · replace h := h.2 c19
                      refine v_iload_n cx 2 d_M_spillOf_70 rfl rfl ?_
                      refine v_if_eq cx 78 d_M_spillOf_71 (by decide) hy11 (fun c22 => ?_) (fun c22 => ?_)
                      · replace h := h.1 c22
                        refine v_iconst cx d_M_spillOf_78 ?_
                        refine v_istore_n (lv' := [(0, .ref (ad 41)), (1, .int (zI place)), (2, .int (zI 0)), (3, .int (zI y12))]) cx d_M_spillOf_79 rfl (by decide) rfl rfl ?_
                        refine v_iinc (lv' := [(0, .ref (ad 41)), (1, .int (zI place)), (2, .int (zI 0)), (3, .int (zI (y12 + 1)))]) cx 3 d_M_spillOf_80 rfl (by decide) rfl rfl ?_
                        refine v_goto cx 54 d_M_spillOf_83 (by decide) ?_
                        obtain ⟨hI2, hz24, hm2⟩ := h
                        exact ih54 _ _ _ (Nat.lt_of_lt_of_le hm2 (Nat.le_of_lt_succ hmm54)) hI2 ⟨by decide, by decide⟩ hz24
                      · replace h := h.2 c22
                        refine v_iconst cx d_M_spillOf_74 ?_
                        refine v_goto cx 79 d_M_spillOf_75 (by decide) ?_
                        refine v_istore_n (lv' := [(0, .ref (ad 41)), (1, .int (zI place)), (2, .int (zI 1)), (3, .int (zI y12))]) cx d_M_spillOf_79 rfl (by decide) rfl rfl ?_
                        refine v_iinc (lv' := [(0, .ref (ad 41)), (1, .int (zI place)), (2, .int (zI 1)), (3, .int (zI (y12 + 1)))]) cx 3 d_M_spillOf_80 rfl (by decide) rfl rfl ?_
                        refine v_goto cx 54 d_M_spillOf_83 (by decide) ?_
                        obtain ⟨hI2, hz26, hm2⟩ := h
                        exact ih54 _ _ _ (Nat.lt_of_lt_of_le hm2 (Nat.le_of_lt_succ hmm54)) hI2 ⟨by decide, by decide⟩ hz26
              exact L54 _ _ _ _ (Nat.lt_succ_self _) h0 ⟨by decide, by decide⟩ ⟨by decide, by decide⟩
        exact L46 _ _ _ (Nat.lt_succ_self _) h0 ⟨by decide, by decide⟩
      · replace h := h.2 c5
        refine v_aload_n cx 0 d_M_spillOf_10 rfl rfl ?_
        refine gf_M_84 cx d_M_spillOf_11 ?_
        refine v_iload_n cx 2 d_M_spillOf_14 rfl rfl ?_
        refine v_aload_n cx 0 d_M_spillOf_15 rfl rfl ?_
        refine v_iload_n cx 2 d_M_spillOf_16 rfl rfl ?_
        refine v_callVz0 (st := [.int (zI y1), .ref (ad 63)]) cx (s_M_isEdge hy1 h) yk_M_isEdge lk_M_197 zl_41 rfl rfl rfl (Nat.le_of_ble_eq_true rfl) ⟨Nat.le_of_ble_eq_true rfl, Nat.le_of_ble_eq_true rfl⟩ ⟨rfl, rfl⟩ ⟨(Nat.le_of_ble_eq_true rfl), (Nat.le_of_ble_eq_true rfl)⟩ d_M_spillOf_17 (fun r28 σ27 hr28 h => ?_)
        refine v_if_eq cx 35 d_M_spillOf_20 (by decide) (zR_b hr28) (fun c29 => ?_) (fun c29 => ?_)
        · replace h := h.1 c29
          refine v_ldc cx ct_M_155 d_M_spillOf_35 ?_
          obtain ⟨hb30, h⟩ := h
          refine v_iast cx zl_63 (by decide) hb30.1 hb30.2 ⟨by decide, by decide⟩ d_M_spillOf_37 ?_
          refine v_ns (fun σ31 eσ31 => ?_)
          replace h := h σ31 eσ31
          refine v_iinc (lv' := [(0, .ref (ad 41)), (1, .int (zI place)), (2, .int (zI (y1 + 1)))]) cx 2 d_M_spillOf_38 rfl (by decide) rfl rfl ?_
          refine v_goto cx 2 d_M_spillOf_41 (by decide) ?_
          obtain ⟨hI2, hz33, hm2⟩ := h
          exact ih2 _ _ (Nat.lt_of_lt_of_le hm2 (Nat.le_of_lt_succ hmm2)) hI2 hz33
        · replace h := h.2 c29
          refine v_aload_n cx 0 d_M_spillOf_23 rfl rfl ?_
          refine gf_M_7 cx d_M_spillOf_24 ?_
          refine v_bipush cx (by decide) d_M_spillOf_27 ?_
          refine v_iload_n cx 2 d_M_spillOf_29 rfl rfl ?_
          refine v_iadd cx d_M_spillOf_30 ?_
          obtain ⟨hb34, h⟩ := h
          refine v_iald cx zl_42 (by decide) hb34.1 hb34.2 d_M_spillOf_31 (fun hl35 => ?_)
          refine v_goto cx 37 d_M_spillOf_32 (by decide) ?_
          obtain ⟨hb36, h⟩ := h
          refine v_iast cx zl_63 (by decide) hb36.1 hb36.2 hl35 d_M_spillOf_37 ?_
          refine v_ns (fun σ37 eσ37 => ?_)
          replace h := h σ37 eσ37
          refine v_iinc (lv' := [(0, .ref (ad 41)), (1, .int (zI place)), (2, .int (zI (y1 + 1)))]) cx 2 d_M_spillOf_38 rfl (by decide) rfl rfl ?_
          refine v_goto cx 2 d_M_spillOf_41 (by decide) ?_
          obtain ⟨hI2, hz39, hm2⟩ := h
          exact ih2 _ _ (Nat.lt_of_lt_of_le hm2 (Nat.le_of_lt_succ hmm2)) hI2 hz39
  exact L2 _ _ _ (Nat.lt_succ_self _) h0 ⟨by decide, by decide⟩
theorem zlk_M_water {a o0 o1 d : Int} (h0 : a ≠ 0) (h1 : a ≠ 1) : Op.lookupswitch.offset [(0, o0), (1, o1)] d a = d := by
  rw [Op.lookupswitch.offset_cons, if_neg (fun q => h0 q.symm), Op.lookupswitch.offset_cons, if_neg (fun q => h1 q.symm)]
  rfl
def q_M_water (place : Int) (what : Int) (K : Int → zS → Prop) (σ : zS) : Prop :=
  q_M_isPlace place (fun r2 σ1 =>
    ∃ J27 : Int → zS → Prop, (∀ (w3 : Int) (σ4 : zS), J27 w3 σ4 → zR w3 → 
      ∀ σ5 : zS, σ5 = zU σ4 41 0 w3 → ((σ5 41 0) ≤ 0 →
        (what = 0 →
          q_M_runOf place (fun r10 σ9 =>
            K r10 σ9) σ5) ∧ (what = 1 →
          q_M_laysCatches (fun σ12 =>
            (0 ≤ place ∧ place < 81) ∧ (K (σ12 62 place) σ12)) σ5) ∧ (what ≠ 0 ∧ what ≠ 1 →
          q_M_spillOf place (fun r16 σ15 =>
            K r16 σ15) σ5)) ∧ (0 < (σ5 41 0) →
        K 0 σ5)) ∧
    ((r2 ≠ 0 →
        q_M_isIn what 0 2 (fun r19 σ18 =>
          (r19 ≠ 0 →
            J27 0 σ18) ∧ (r19 = 0 →
            J27 2 σ18)) σ1) ∧ (r2 = 0 →
        J27 1 σ1))) σ
abbrev rm_M_water : Room := { frames := 4, cells := 0, slots := 0, locals := 94 }
set_option maxRecDepth 20000 in
set_option maxHeartbeats 4000000 in
theorem s_M_water {Ω : zO} {ad : Nat → Nat} {place : Int} {what : Int} {K : Int → zS → Prop} {σ : zS} (hplace : zR place) (hwhat : zR what) (h : q_M_water place what K σ) : zMi Ω y_M_water (.code y_M_water c_M_water 3 (some .int)) rm_M_water zLy ad [.ref (ad 41), .int (zI place), .int (zI what)] σ K := by
  refine z_ofi (lv := [(0, .ref (ad 41)), (1, .int (zI place)), (2, .int (zI what))]) (by decide) rfl (Nat.le_of_ble_eq_true rfl) ?_
  intro Γ Q cx rt
  unfold q_M_water at h
  refine v_aload_n cx 0 d_M_water_0 rfl rfl ?_
  refine v_aload_n cx 0 d_M_water_1 rfl rfl ?_
  refine v_iload_n cx 1 d_M_water_2 rfl rfl ?_
  refine v_callVz0 (st := [.ref (ad 41)]) cx (s_M_isPlace hplace h) yk_M_isPlace lk_M_203 zl_41 rfl rfl rfl (Nat.le_of_ble_eq_true rfl) ⟨Nat.le_of_ble_eq_true rfl, Nat.le_of_ble_eq_true rfl⟩ ⟨rfl, rfl⟩ ⟨(Nat.le_of_ble_eq_true rfl), (Nat.le_of_ble_eq_true rfl)⟩ d_M_water_3 (fun r2 σ1 hr2 h => ?_)
  obtain ⟨J27, hJ27, h⟩ := h
  have G27 : ∀ (w3 : Int) (σ4 : zS), J27 w3 σ4 → zR w3 → zV Ω Γ rm_M_water 3 Q 0 0 zLy ad σ4 27 [(0, .ref (ad 41)), (1, .int (zI place)), (2, .int (zI what))] [.int (zI w3), .ref (ad 41)] := by
    intro w3 σ4 hJ hw3
    replace h := hJ27 w3 σ4 hJ hw3
    refine pf_M_87 cx hw3 d_M_water_27 ?_
    refine v_ns (fun σ5 eσ5 => ?_)
    replace h := h σ5 eσ5
    refine v_aload_n cx 0 d_M_water_30 rfl rfl ?_
    refine gf_M_87 cx d_M_water_31 (fun hl6 => ?_)
    refine v_if_le cx 39 d_M_water_34 (by decide) hl6 (fun c7 => ?_) (fun c7 => ?_)
    · replace h := h.1 c7
      refine v_iload_n cx 2 d_M_water_39 rfl rfl ?_
      by_cases c8 : what = 0
      · replace h := h.1 c8
        refine v_lookup (off := 28) cx 68 d_M_water_40 rfl (by rw [c8]; try rfl) (by decide) hwhat ?_
        refine v_aload_n cx 0 d_M_water_68 rfl rfl ?_
        refine v_iload_n cx 1 d_M_water_69 rfl rfl ?_
        refine v_callVi0 (st := []) cx (s_M_runOf hplace h) yk_M_runOf lk_M_194 zl_41 rfl rfl rfl (Nat.le_of_ble_eq_true rfl) ⟨Nat.le_of_ble_eq_true rfl, Nat.le_of_ble_eq_true rfl⟩ ⟨rfl, rfl⟩ ⟨(Nat.le_of_ble_eq_true rfl), (Nat.le_of_ble_eq_true rfl)⟩ d_M_water_70 (fun r10 σ9 hr10 h => ?_)
        exact rt _ _ _ _ _ _ (Nat.le_of_ble_eq_true rfl) (Nat.le_of_ble_eq_true rfl) d_M_water_73 hr10 h
      replace h := h.2
      by_cases c11 : what = 1
      · replace h := h.1 c11
        refine v_lookup (off := 34) cx 74 d_M_water_40 rfl (by rw [c11]; try rfl) (by decide) hwhat ?_
        refine v_aload_n cx 0 d_M_water_74 rfl rfl ?_
        refine v_callVv0 (st := []) cx (s_M_laysCatches  h) yk_M_laysCatches lk_M_162 zl_41 rfl rfl rfl (Nat.le_of_ble_eq_true rfl) ⟨Nat.le_of_ble_eq_true rfl, Nat.le_of_ble_eq_true rfl⟩ ⟨rfl, rfl⟩ ⟨(Nat.le_of_ble_eq_true rfl), (Nat.le_of_ble_eq_true rfl)⟩ d_M_water_75 (fun σ12 h => ?_)
        refine v_aload_n cx 0 d_M_water_78 rfl rfl ?_
        refine gf_M_81 cx d_M_water_79 ?_
        refine v_iload_n cx 1 d_M_water_82 rfl rfl ?_
        obtain ⟨hb13, h⟩ := h
        refine v_iald cx zl_62 (by decide) hb13.1 hb13.2 d_M_water_83 (fun hl14 => ?_)
        exact rt _ _ _ _ _ _ (Nat.le_of_ble_eq_true rfl) (Nat.le_of_ble_eq_true rfl) d_M_water_84 hl14 h
      replace h := h.2
      replace h := h ⟨c8, c11⟩
      refine v_lookup (off := 45) cx 85 d_M_water_40 rfl (zlk_M_water c8 c11) (by decide) hwhat ?_
      refine v_aload_n cx 0 d_M_water_85 rfl rfl ?_
      refine v_iload_n cx 1 d_M_water_86 rfl rfl ?_
      refine v_callVi0 (st := []) cx (s_M_spillOf hplace h) yk_M_spillOf lk_M_206 zl_41 rfl rfl rfl (Nat.le_of_ble_eq_true rfl) ⟨Nat.le_of_ble_eq_true rfl, Nat.le_of_ble_eq_true rfl⟩ ⟨rfl, rfl⟩ ⟨(Nat.le_of_ble_eq_true rfl), (Nat.le_of_ble_eq_true rfl)⟩ d_M_water_87 (fun r16 σ15 hr16 h => ?_)
      exact rt _ _ _ _ _ _ (Nat.le_of_ble_eq_true rfl) (Nat.le_of_ble_eq_true rfl) d_M_water_90 hr16 h
    · replace h := h.2 c7
      refine v_iconst cx d_M_water_37 ?_
      exact rt _ _ _ _ _ _ (Nat.le_of_ble_eq_true rfl) (Nat.le_of_ble_eq_true rfl) d_M_water_38 ⟨by decide, by decide⟩ h
  refine v_if_ne cx 13 d_M_water_6 (by decide) (zR_b hr2) (fun c17 => ?_) (fun c17 => ?_)
  · replace h := h.1 c17
    refine v_iload_n cx 2 d_M_water_13 rfl rfl ?_
    refine v_iconst cx d_M_water_14 ?_
    refine v_iconst cx d_M_water_15 ?_
    refine v_callSz0 (st := [.ref (ad 41)]) cx (s_M_isIn hwhat ⟨by decide, by decide⟩ ⟨by decide, by decide⟩ h) yk_M_isIn lk_M_94 rfl rfl (Nat.le_of_ble_eq_true rfl) ⟨Nat.le_of_ble_eq_true rfl, Nat.le_of_ble_eq_true rfl⟩ ⟨rfl, rfl⟩ ⟨(Nat.le_of_ble_eq_true rfl), (Nat.le_of_ble_eq_true rfl)⟩ d_M_water_16 (fun r19 σ18 hr19 h => ?_)
    refine v_if_ne cx 26 d_M_water_19 (by decide) (zR_b hr19) (fun c20 => ?_) (fun c20 => ?_)
    · replace h := h.1 c20
      refine v_iconst cx d_M_water_26 ?_
      have hJ2 := h
      exact G27 _ _ hJ2 ⟨by decide, by decide⟩
    · replace h := h.2 c20
      refine v_iconst cx d_M_water_22 ?_
      refine v_goto cx 27 d_M_water_23 (by decide) ?_
      have hJ2 := h
      exact G27 _ _ hJ2 ⟨by decide, by decide⟩
  · replace h := h.2 c17
    refine v_iconst cx d_M_water_9 ?_
    refine v_goto cx 27 d_M_water_10 (by decide) ?_
    have hJ2 := h
    exact G27 _ _ hJ2 ⟨by decide, by decide⟩
def q_M_isRoad (r : Int) (K : Int → zS → Prop) (σ : zS) : Prop :=
  q_M_isIn r 0 3 (fun r2 σ1 =>
    K r2 σ1) σ
abbrev rm_M_isRoad : Room := { frames := 1, cells := 0, slots := 0, locals := 22 }
set_option maxRecDepth 20000 in
set_option maxHeartbeats 4000000 in
theorem s_M_isRoad {Ω : zO} {ad : Nat → Nat} {r : Int} {K : Int → zS → Prop} {σ : zS} (hr : zR r) (h : q_M_isRoad r K σ) : zMz Ω y_M_isRoad (.code y_M_isRoad c_M_isRoad 1 (some .boolean)) rm_M_isRoad zLy ad [.int (zI r)] σ K := by
  refine z_ofz (lv := [(0, .int (zI r))]) (by decide) rfl (Nat.le_of_ble_eq_true rfl) ?_
  intro Γ Q cx rt
  unfold q_M_isRoad at h
  refine v_iload_n cx 0 d_M_isRoad_0 rfl rfl ?_
  refine v_iconst cx d_M_isRoad_1 ?_
  refine v_iconst cx d_M_isRoad_2 ?_
  refine v_callSz0 (st := []) cx (s_M_isIn hr ⟨by decide, by decide⟩ ⟨by decide, by decide⟩ h) yk_M_isIn lk_M_94 rfl rfl (Nat.le_of_ble_eq_true rfl) ⟨Nat.le_of_ble_eq_true rfl, Nat.le_of_ble_eq_true rfl⟩ ⟨rfl, rfl⟩ ⟨(Nat.le_of_ble_eq_true rfl), (Nat.le_of_ble_eq_true rfl)⟩ d_M_isRoad_3 (fun r2 σ1 hr2 h => ?_)
  exact rt _ _ _ _ _ _ (Nat.le_of_ble_eq_true rfl) (Nat.le_of_ble_eq_true rfl) d_M_isRoad_6 hr2 h
def q_M_bridges (road : Int) (n_ : Int) (K : Int → zS → Prop) (σ : zS) : Prop :=
  q_M_isRoad road (fun r2 σ1 =>
    ∃ J39 : Int → zS → Prop, (∀ (w3 : Int) (σ4 : zS), J39 w3 σ4 → zR w3 → 
      ∀ σ5 : zS, σ5 = zU σ4 41 0 w3 → ((σ5 41 0) ≤ 0 →
        q_M_laysCatches (fun σ8 =>
          ∃ (I60 : Int → Int → zS → Prop) (μ60 : Int → Int → zS → Nat), (I60 0 0 σ8) ∧ ∀ (y9 y10 : Int) (σ11 : zS), I60 y9 y10 σ11 → zR y9 → zR y10 → 
          q_M_many road (fun r13 σ12 =>
            (r13 ≤ y10 →
              K y9 σ12) ∧ (y10 < r13 →
              ∃ (I76 : Int → Int → zS → Prop) (μ76 : Int → Int → zS → Nat), (I76 1 0 σ12) ∧ ∀ (y15 y16 : Int) (σ17 : zS), I76 y15 y16 σ17 → zR y15 → zR y16 → 
              (y10 ≤ y16 →
                (y15 = 0 →
                  ∀ x20 : Int, x20 = y9 + 0 → I60 x20 (y10 + 1) σ17 ∧ zR x20 ∧ zR (y10 + 1) ∧ μ60 x20 (y10 + 1) σ17 < μ60 y9 y10 σ11) ∧ (y15 ≠ 0 →
                  q_M_placeAt road y10 (fun r25 σ24 =>
                    (0 ≤ r25 ∧ r25 < 81) ∧ (((σ24 62 r25) < n_ →
                        ∀ x29 : Int, x29 = y9 + 0 → I60 x29 (y10 + 1) σ24 ∧ zR x29 ∧ zR (y10 + 1) ∧ μ60 x29 (y10 + 1) σ24 < μ60 y9 y10 σ11) ∧ (n_ ≤ (σ24 62 r25) →
                        ∀ x33 : Int, x33 = y9 + 1 → I60 x33 (y10 + 1) σ24 ∧ zR x33 ∧ zR (y10 + 1) ∧ μ60 x33 (y10 + 1) σ24 < μ60 y9 y10 σ11))) σ17)) ∧ (y16 < y10 →
                (y15 = 0 →
                  I76 0 (y16 + 1) σ17 ∧ zR (y16 + 1) ∧ μ76 0 (y16 + 1) σ17 < μ76 y15 y16 σ17) ∧ (y15 ≠ 0 →
                  q_M_placeAt road y16 (fun r41 σ40 =>
                    q_M_placeAt road y10 (fun r43 σ42 =>
                      (r41 = r43 →
                        I76 0 (y16 + 1) σ42 ∧ zR (y16 + 1) ∧ μ76 0 (y16 + 1) σ42 < μ76 y15 y16 σ17) ∧ (r41 ≠ r43 →
                        I76 1 (y16 + 1) σ42 ∧ zR (y16 + 1) ∧ μ76 1 (y16 + 1) σ42 < μ76 y15 y16 σ17)) σ40) σ17)))) σ11) σ5) ∧ (0 < (σ5 41 0) →
        K 0 σ5)) ∧
    ((r2 ≠ 0 →
        q_M_isIn n_ 1 81 (fun r51 σ50 =>
          (r51 ≠ 0 →
            q_M_many road (fun r54 σ53 =>
              (r54 ≠ 0 →
                J39 0 σ53) ∧ (r54 = 0 →
                J39 3 σ53)) σ50) ∧ (r51 = 0 →
            J39 2 σ50)) σ1) ∧ (r2 = 0 →
        J39 1 σ1))) σ
abbrev rm_M_bridges : Room := { frames := 4, cells := 0, slots := 0, locals := 92 }
set_option maxRecDepth 20000 in
set_option maxHeartbeats 4000000 in
theorem s_M_bridges {Ω : zO} {ad : Nat → Nat} {road : Int} {n_ : Int} {K : Int → zS → Prop} {σ : zS} (hroad : zR road) (hn_ : zR n_) (h : q_M_bridges road n_ K σ) : zMi Ω y_M_bridges (.code y_M_bridges c_M_bridges 7 (some .int)) rm_M_bridges zLy ad [.ref (ad 41), .int (zI road), .int (zI n_)] σ K := by
  refine z_ofi (lv := [(0, .ref (ad 41)), (1, .int (zI road)), (2, .int (zI n_))]) (by decide) rfl (Nat.le_of_ble_eq_true rfl) ?_
  intro Γ Q cx rt
  unfold q_M_bridges at h
  refine v_aload_n cx 0 d_M_bridges_0 rfl rfl ?_
  refine v_iload_n cx 1 d_M_bridges_1 rfl rfl ?_
  refine v_callSz0 (st := [.ref (ad 41)]) cx (s_M_isRoad hroad h) yk_M_isRoad lk_M_209 rfl rfl (Nat.le_of_ble_eq_true rfl) ⟨Nat.le_of_ble_eq_true rfl, Nat.le_of_ble_eq_true rfl⟩ ⟨rfl, rfl⟩ ⟨(Nat.le_of_ble_eq_true rfl), (Nat.le_of_ble_eq_true rfl)⟩ d_M_bridges_2 (fun r2 σ1 hr2 h => ?_)
  obtain ⟨J39, hJ39, h⟩ := h
  have G39 : ∀ (w3 : Int) (σ4 : zS), J39 w3 σ4 → zR w3 → zV Ω Γ rm_M_bridges 7 Q 0 0 zLy ad σ4 39 [(0, .ref (ad 41)), (1, .int (zI road)), (2, .int (zI n_))] [.int (zI w3), .ref (ad 41)] := by
    intro w3 σ4 hJ hw3
    replace h := hJ39 w3 σ4 hJ hw3
    refine pf_M_87 cx hw3 d_M_bridges_39 ?_
    refine v_ns (fun σ5 eσ5 => ?_)
    replace h := h σ5 eσ5
    refine v_aload_n cx 0 d_M_bridges_42 rfl rfl ?_
    refine gf_M_87 cx d_M_bridges_43 (fun hl6 => ?_)
    refine v_if_le cx 51 d_M_bridges_46 (by decide) hl6 (fun c7 => ?_) (fun c7 => ?_)
    · replace h := h.1 c7
      refine v_aload_n cx 0 d_M_bridges_51 rfl rfl ?_
      refine v_callVv0 (st := []) cx (s_M_laysCatches  h) yk_M_laysCatches lk_M_162 zl_41 rfl rfl rfl (Nat.le_of_ble_eq_true rfl) ⟨Nat.le_of_ble_eq_true rfl, Nat.le_of_ble_eq_true rfl⟩ ⟨rfl, rfl⟩ ⟨(Nat.le_of_ble_eq_true rfl), (Nat.le_of_ble_eq_true rfl)⟩ d_M_bridges_52 (fun σ8 h => ?_)
      refine v_iconst cx d_M_bridges_55 ?_
      refine v_istore_n (lv' := [(0, .ref (ad 41)), (1, .int (zI road)), (2, .int (zI n_)), (3, .int (zI 0))]) cx d_M_bridges_56 rfl (by decide) rfl rfl ?_
      refine v_iconst cx d_M_bridges_57 ?_
      refine v_istore (lv' := [(0, .ref (ad 41)), (1, .int (zI road)), (2, .int (zI n_)), (3, .int (zI 0)), (4, .int (zI 0))]) cx d_M_bridges_58 (by decide) rfl rfl ?_
      obtain ⟨I60, μ60, h0, h⟩ := h
      have L60 : ∀ (N60 : Nat) (y9 y10 : Int) (σ11 : zS), μ60 y9 y10 σ11 < N60 → I60 y9 y10 σ11 → zR y9 → zR y10 → zV Ω Γ rm_M_bridges 7 Q 0 0 zLy ad σ11 60 [(0, .ref (ad 41)), (1, .int (zI road)), (2, .int (zI n_)), (3, .int (zI y9)), (4, .int (zI y10))] [] := by
        intro N60
        induction N60 with
        | zero => intro y9 y10 σ11 hm; exact absurd hm (Nat.not_lt_zero _)
        | succ N60 ih60 =>
          intro y9 y10 σ11 hmm60 hI hy9 hy10
          replace h := h y9 y10 σ11 hI hy9 hy10
          refine v_iload cx 4 d_M_bridges_60 rfl ?_
          refine v_aload_n cx 0 d_M_bridges_62 rfl rfl ?_
          refine v_iload_n cx 1 d_M_bridges_63 rfl rfl ?_
          refine v_callVi0 (st := [.int (zI y10)]) cx (s_M_many hroad h) yk_M_many lk_M_129 zl_41 rfl rfl rfl (Nat.le_of_ble_eq_true rfl) ⟨Nat.le_of_ble_eq_true rfl, Nat.le_of_ble_eq_true rfl⟩ ⟨rfl, rfl⟩ ⟨(Nat.le_of_ble_eq_true rfl), (Nat.le_of_ble_eq_true rfl)⟩ d_M_bridges_64 (fun r13 σ12 hr13 h => ?_)
          refine v_icmp_ge cx 153 d_M_bridges_67 (by decide) hy10 hr13 (fun c14 => ?_) (fun c14 => ?_)
          · replace h := h.1 c14
            refine v_iload_n cx 3 d_M_bridges_153 rfl rfl ?_
            exact rt _ _ _ _ _ _ (Nat.le_of_ble_eq_true rfl) (Nat.le_of_ble_eq_true rfl) d_M_bridges_154 hy9 h
          · replace h := h.2 c14
            refine v_iconst cx d_M_bridges_70 ?_
            refine v_istore (lv' := [(0, .ref (ad 41)), (1, .int (zI road)), (2, .int (zI n_)), (3, .int (zI y9)), (4, .int (zI y10)), (5, .int (zI 1))]) cx d_M_bridges_71 (by decide) rfl rfl ?_
            refine v_iconst cx d_M_bridges_73 ?_
            refine v_istore (lv' := [(0, .ref (ad 41)), (1, .int (zI road)), (2, .int (zI n_)), (3, .int (zI y9)), (4, .int (zI y10)), (5, .int (zI 1)), (6, .int (zI 0))]) cx d_M_bridges_74 (by decide) rfl rfl ?_
            obtain ⟨I76, μ76, h0, h⟩ := h
            have L76 : ∀ (N76 : Nat) (y15 y16 : Int) (σ17 : zS), μ76 y15 y16 σ17 < N76 → I76 y15 y16 σ17 → zR y15 → zR y16 → zV Ω Γ rm_M_bridges 7 Q 0 0 zLy ad σ17 76 [(0, .ref (ad 41)), (1, .int (zI road)), (2, .int (zI n_)), (3, .int (zI y9)), (4, .int (zI y10)), (5, .int (zI y15)), (6, .int (zI y16))] [] := by
              intro N76
              induction N76 with
              | zero => intro y15 y16 σ17 hm; exact absurd hm (Nat.not_lt_zero _)
              | succ N76 ih76 =>
                intro y15 y16 σ17 hmm76 hI hy15 hy16
                replace h := h y15 y16 σ17 hI hy15 hy16
                refine v_iload cx 6 d_M_bridges_76 rfl ?_
                refine v_iload cx 4 d_M_bridges_78 rfl ?_
                refine v_icmp_ge cx 118 d_M_bridges_80 (by decide) hy16 hy10 (fun c18 => ?_) (fun c18 => ?_)
                · replace h := h.1 c18
                  refine v_iload_n cx 3 d_M_bridges_118 rfl rfl ?_
                  refine v_iload cx 5 d_M_bridges_119 rfl ?_
                  refine v_if_eq cx 144 d_M_bridges_121 (by decide) hy15 (fun c19 => ?_) (fun c19 => ?_)
                  · replace h := h.1 c19
                    refine v_iconst cx d_M_bridges_144 ?_
                    refine v_iadd cx d_M_bridges_145 ?_
                    refine v_nm (fun x20 ex20 => ?_)
                    replace h := h x20 ex20
                    refine v_istore_n (lv' := [(0, .ref (ad 41)), (1, .int (zI road)), (2, .int (zI n_)), (3, .int (zI x20)), (4, .int (zI y10)), (5, .int (zI y15)), (6, .int (zI y16))]) cx d_M_bridges_146 rfl (by decide) rfl rfl ?_
                    refine v_iinc (lv' := [(0, .ref (ad 41)), (1, .int (zI road)), (2, .int (zI n_)), (3, .int (zI x20)), (4, .int (zI (y10 + 1))), (5, .int (zI y15)), (6, .int (zI y16))]) cx 4 d_M_bridges_147 rfl (by decide) rfl rfl ?_
                    refine v_goto cx 60 d_M_bridges_150 (by decide) ?_
                    refine v_sb (lv' := [(0, .ref (ad 41)), (1, .int (zI road)), (2, .int (zI n_)), (3, .int (zI x20)), (4, .int (zI (y10 + 1)))]) [0, 1, 2, 3, 4] rfl ?_
                    obtain ⟨hI2, hz22, hz23, hm2⟩ := h
                    exact ih60 _ _ _ (Nat.lt_of_lt_of_le hm2 (Nat.le_of_lt_succ hmm60)) hI2 hz22 hz23
                  · replace h := h.2 c19
                    refine v_aload_n cx 0 d_M_bridges_124 rfl rfl ?_
                    refine gf_M_81 cx d_M_bridges_125 ?_
                    refine v_aload_n cx 0 d_M_bridges_128 rfl rfl ?_
                    refine v_iload_n cx 1 d_M_bridges_129 rfl rfl ?_
                    refine v_iload cx 4 d_M_bridges_130 rfl ?_
                    refine v_callVi0 (st := [.ref (ad 62), .int (zI y9)]) cx (s_M_placeAt hroad hy10 h) yk_M_placeAt lk_M_212 zl_41 rfl rfl rfl (Nat.le_of_ble_eq_true rfl) ⟨Nat.le_of_ble_eq_true rfl, Nat.le_of_ble_eq_true rfl⟩ ⟨rfl, rfl⟩ ⟨(Nat.le_of_ble_eq_true rfl), (Nat.le_of_ble_eq_true rfl)⟩ d_M_bridges_132 (fun r25 σ24 hr25 h => ?_)
                    obtain ⟨hb26, h⟩ := h
                    refine v_iald cx zl_62 (by decide) hb26.1 hb26.2 d_M_bridges_135 (fun hl27 => ?_)
                    refine v_iload_n cx 2 d_M_bridges_136 rfl rfl ?_
                    refine v_icmp_lt cx 144 d_M_bridges_137 (by decide) hl27 hn_ (fun c28 => ?_) (fun c28 => ?_)
                    · replace h := h.1 c28
                      refine v_iconst cx d_M_bridges_144 ?_
                      refine v_iadd cx d_M_bridges_145 ?_
                      refine v_nm (fun x29 ex29 => ?_)
                      replace h := h x29 ex29
                      refine v_istore_n (lv' := [(0, .ref (ad 41)), (1, .int (zI road)), (2, .int (zI n_)), (3, .int (zI x29)), (4, .int (zI y10)), (5, .int (zI y15)), (6, .int (zI y16))]) cx d_M_bridges_146 rfl (by decide) rfl rfl ?_
                      refine v_iinc (lv' := [(0, .ref (ad 41)), (1, .int (zI road)), (2, .int (zI n_)), (3, .int (zI x29)), (4, .int (zI (y10 + 1))), (5, .int (zI y15)), (6, .int (zI y16))]) cx 4 d_M_bridges_147 rfl (by decide) rfl rfl ?_
                      refine v_goto cx 60 d_M_bridges_150 (by decide) ?_
                      refine v_sb (lv' := [(0, .ref (ad 41)), (1, .int (zI road)), (2, .int (zI n_)), (3, .int (zI x29)), (4, .int (zI (y10 + 1)))]) [0, 1, 2, 3, 4] rfl ?_
                      obtain ⟨hI2, hz31, hz32, hm2⟩ := h
                      exact ih60 _ _ _ (Nat.lt_of_lt_of_le hm2 (Nat.le_of_lt_succ hmm60)) hI2 hz31 hz32
                    · replace h := h.2 c28
                      refine v_iconst cx d_M_bridges_140 ?_
                      refine v_goto cx 145 d_M_bridges_141 (by decide) ?_
                      refine v_iadd cx d_M_bridges_145 ?_
                      refine v_nm (fun x33 ex33 => ?_)
                      replace h := h x33 ex33
                      refine v_istore_n (lv' := [(0, .ref (ad 41)), (1, .int (zI road)), (2, .int (zI n_)), (3, .int (zI x33)), (4, .int (zI y10)), (5, .int (zI y15)), (6, .int (zI y16))]) cx d_M_bridges_146 rfl (by decide) rfl rfl ?_
                      refine v_iinc (lv' := [(0, .ref (ad 41)), (1, .int (zI road)), (2, .int (zI n_)), (3, .int (zI x33)), (4, .int (zI (y10 + 1))), (5, .int (zI y15)), (6, .int (zI y16))]) cx 4 d_M_bridges_147 rfl (by decide) rfl rfl ?_
                      refine v_goto cx 60 d_M_bridges_150 (by decide) ?_
                      refine v_sb (lv' := [(0, .ref (ad 41)), (1, .int (zI road)), (2, .int (zI n_)), (3, .int (zI x33)), (4, .int (zI (y10 + 1)))]) [0, 1, 2, 3, 4] rfl ?_
                      obtain ⟨hI2, hz35, hz36, hm2⟩ := h
                      exact ih60 _ _ _ (Nat.lt_of_lt_of_le hm2 (Nat.le_of_lt_succ hmm60)) hI2 hz35 hz36
                · replace h := h.2 c18
                  refine v_iload cx 5 d_M_bridges_83 rfl ?_
                  refine v_if_eq cx 109 d_M_bridges_85 (by decide) hy15 (fun c37 => ?_) (fun c37 => ?_)
                  · replace h := h.1 c37
                    refine v_iconst cx d_M_bridges_109 ?_
                    refine v_istore (lv' := [(0, .ref (ad 41)), (1, .int (zI road)), (2, .int (zI n_)), (3, .int (zI y9)), (4, .int (zI y10)), (5, .int (zI 0)), (6, .int (zI y16))]) cx d_M_bridges_110 (by decide) rfl rfl ?_
                    refine v_iinc (lv' := [(0, .ref (ad 41)), (1, .int (zI road)), (2, .int (zI n_)), (3, .int (zI y9)), (4, .int (zI y10)), (5, .int (zI 0)), (6, .int (zI (y16 + 1)))]) cx 6 d_M_bridges_112 rfl (by decide) rfl rfl ?_
                    refine v_goto cx 76 d_M_bridges_115 (by decide) ?_
                    obtain ⟨hI2, hz39, hm2⟩ := h
                    exact ih76 _ _ _ (Nat.lt_of_lt_of_le hm2 (Nat.le_of_lt_succ hmm76)) hI2 ⟨by decide, by decide⟩ hz39
                  · replace h := h.2 c37
                    refine v_aload_n cx 0 d_M_bridges_88 rfl rfl ?_
                    refine v_iload_n cx 1 d_M_bridges_89 rfl rfl ?_
                    refine v_iload cx 6 d_M_bridges_90 rfl ?_
                    refine v_callVi0 (st := []) cx (s_M_placeAt hroad hy16 h) yk_M_placeAt lk_M_212 zl_41 rfl rfl rfl (Nat.le_of_ble_eq_true rfl) ⟨Nat.le_of_ble_eq_true rfl, Nat.le_of_ble_eq_true rfl⟩ ⟨rfl, rfl⟩ ⟨(Nat.le_of_ble_eq_true rfl), (Nat.le_of_ble_eq_true rfl)⟩ d_M_bridges_92 (fun r41 σ40 hr41 h => ?_)
                    refine v_aload_n cx 0 d_M_bridges_95 rfl rfl ?_
                    refine v_iload_n cx 1 d_M_bridges_96 rfl rfl ?_
                    refine v_iload cx 4 d_M_bridges_97 rfl ?_
                    refine v_callVi0 (st := [.int (zI r41)]) cx (s_M_placeAt hroad hy10 h) yk_M_placeAt lk_M_212 zl_41 rfl rfl rfl (Nat.le_of_ble_eq_true rfl) ⟨Nat.le_of_ble_eq_true rfl, Nat.le_of_ble_eq_true rfl⟩ ⟨rfl, rfl⟩ ⟨(Nat.le_of_ble_eq_true rfl), (Nat.le_of_ble_eq_true rfl)⟩ d_M_bridges_99 (fun r43 σ42 hr43 h => ?_)
                    refine v_icmp_eq cx 109 d_M_bridges_102 (by decide) hr41 hr43 (fun c44 => ?_) (fun c44 => ?_)
                    · replace h := h.1 c44
                      refine v_iconst cx d_M_bridges_109 ?_
                      refine v_istore (lv' := [(0, .ref (ad 41)), (1, .int (zI road)), (2, .int (zI n_)), (3, .int (zI y9)), (4, .int (zI y10)), (5, .int (zI 0)), (6, .int (zI y16))]) cx d_M_bridges_110 (by decide) rfl rfl ?_
                      refine v_iinc (lv' := [(0, .ref (ad 41)), (1, .int (zI road)), (2, .int (zI n_)), (3, .int (zI y9)), (4, .int (zI y10)), (5, .int (zI 0)), (6, .int (zI (y16 + 1)))]) cx 6 d_M_bridges_112 rfl (by decide) rfl rfl ?_
                      refine v_goto cx 76 d_M_bridges_115 (by decide) ?_
                      obtain ⟨hI2, hz46, hm2⟩ := h
                      exact ih76 _ _ _ (Nat.lt_of_lt_of_le hm2 (Nat.le_of_lt_succ hmm76)) hI2 ⟨by decide, by decide⟩ hz46
                    · replace h := h.2 c44
                      refine v_iconst cx d_M_bridges_105 ?_
                      refine v_goto cx 110 d_M_bridges_106 (by decide) ?_
                      refine v_istore (lv' := [(0, .ref (ad 41)), (1, .int (zI road)), (2, .int (zI n_)), (3, .int (zI y9)), (4, .int (zI y10)), (5, .int (zI 1)), (6, .int (zI y16))]) cx d_M_bridges_110 (by decide) rfl rfl ?_
                      refine v_iinc (lv' := [(0, .ref (ad 41)), (1, .int (zI road)), (2, .int (zI n_)), (3, .int (zI y9)), (4, .int (zI y10)), (5, .int (zI 1)), (6, .int (zI (y16 + 1)))]) cx 6 d_M_bridges_112 rfl (by decide) rfl rfl ?_
                      refine v_goto cx 76 d_M_bridges_115 (by decide) ?_
                      obtain ⟨hI2, hz48, hm2⟩ := h
                      exact ih76 _ _ _ (Nat.lt_of_lt_of_le hm2 (Nat.le_of_lt_succ hmm76)) hI2 ⟨by decide, by decide⟩ hz48
            exact L76 _ _ _ _ (Nat.lt_succ_self _) h0 ⟨by decide, by decide⟩ ⟨by decide, by decide⟩
      exact L60 _ _ _ _ (Nat.lt_succ_self _) h0 ⟨by decide, by decide⟩ ⟨by decide, by decide⟩
    · replace h := h.2 c7
      refine v_iconst cx d_M_bridges_49 ?_
      exact rt _ _ _ _ _ _ (Nat.le_of_ble_eq_true rfl) (Nat.le_of_ble_eq_true rfl) d_M_bridges_50 ⟨by decide, by decide⟩ h
  refine v_if_ne cx 12 d_M_bridges_5 (by decide) (zR_b hr2) (fun c49 => ?_) (fun c49 => ?_)
  · replace h := h.1 c49
    refine v_iload_n cx 2 d_M_bridges_12 rfl rfl ?_
    refine v_iconst cx d_M_bridges_13 ?_
    refine v_bipush cx (by decide) d_M_bridges_14 ?_
    refine v_callSz0 (st := [.ref (ad 41)]) cx (s_M_isIn hn_ ⟨by decide, by decide⟩ ⟨by decide, by decide⟩ h) yk_M_isIn lk_M_94 rfl rfl (Nat.le_of_ble_eq_true rfl) ⟨Nat.le_of_ble_eq_true rfl, Nat.le_of_ble_eq_true rfl⟩ ⟨rfl, rfl⟩ ⟨(Nat.le_of_ble_eq_true rfl), (Nat.le_of_ble_eq_true rfl)⟩ d_M_bridges_16 (fun r51 σ50 hr51 h => ?_)
    refine v_if_ne cx 26 d_M_bridges_19 (by decide) (zR_b hr51) (fun c52 => ?_) (fun c52 => ?_)
    · replace h := h.1 c52
      refine v_aload_n cx 0 d_M_bridges_26 rfl rfl ?_
      refine v_iload_n cx 1 d_M_bridges_27 rfl rfl ?_
      refine v_callVi0 (st := [.ref (ad 41)]) cx (s_M_many hroad h) yk_M_many lk_M_129 zl_41 rfl rfl rfl (Nat.le_of_ble_eq_true rfl) ⟨Nat.le_of_ble_eq_true rfl, Nat.le_of_ble_eq_true rfl⟩ ⟨rfl, rfl⟩ ⟨(Nat.le_of_ble_eq_true rfl), (Nat.le_of_ble_eq_true rfl)⟩ d_M_bridges_28 (fun r54 σ53 hr54 h => ?_)
      refine v_if_ne cx 38 d_M_bridges_31 (by decide) hr54 (fun c55 => ?_) (fun c55 => ?_)
      · replace h := h.1 c55
        refine v_iconst cx d_M_bridges_38 ?_
        have hJ2 := h
        exact G39 _ _ hJ2 ⟨by decide, by decide⟩
      · replace h := h.2 c55
        refine v_iconst cx d_M_bridges_34 ?_
        refine v_goto cx 39 d_M_bridges_35 (by decide) ?_
        have hJ2 := h
        exact G39 _ _ hJ2 ⟨by decide, by decide⟩
    · replace h := h.2 c52
      refine v_iconst cx d_M_bridges_22 ?_
      refine v_goto cx 39 d_M_bridges_23 (by decide) ?_
      have hJ2 := h
      exact G39 _ _ hJ2 ⟨by decide, by decide⟩
  · replace h := h.2 c49
    refine v_iconst cx d_M_bridges_8 ?_
    refine v_goto cx 39 d_M_bridges_9 (by decide) ?_
    have hJ2 := h
    exact G39 _ _ hJ2 ⟨by decide, by decide⟩
def q_M_feed (a : Int) (b : Int) (c : Int) (d : Int) (e : Int) (K : Int → zS → Prop) (σ : zS) : Prop :=
  ∀ σ1 : zS, σ1 = zU σ 41 0 0 → zR ((σ1 41 11) + 20) ∧ ((((σ1 41 11) + 20) ≤ 400 →
      ∃ (I23 : Int → zS → Prop) (μ23 : Int → zS → Nat), (I23 0 σ1) ∧ ∀ (y5 : Int) (σ6 : zS), I23 y5 σ6 → zR y5 → 
      (20 ≤ y5 →
        K (σ6 41 11) σ6) ∧ (y5 < 20 →
        ∃ J76 : Int → Prop, (∀ (w9 : Int), J76 w9 → zR w9 → 
          (0 ≤ σ6 41 11 ∧ σ6 41 11 < 400) ∧ (∀ σ12 : zS, σ12 = zU σ6 49 (σ6 41 11) (zAnd (zUshr w9 (24 - (8 * (Int.tmod y5 4)))) 255) → zR ((σ12 41 11) + 1) ∧ (∀ σ15 : zS, σ15 = zU σ12 41 11 ((σ12 41 11) + 1) → I23 (y5 + 1) σ15 ∧ zR (y5 + 1) ∧ μ23 (y5 + 1) σ15 < μ23 y5 σ6))) ∧
        ((4 ≤ y5 →
            (8 ≤ y5 →
              (12 ≤ y5 →
                (16 ≤ y5 →
                  J76 e) ∧ (y5 < 16 →
                  J76 d)) ∧ (y5 < 12 →
                J76 c)) ∧ (y5 < 8 →
              J76 b)) ∧ (y5 < 4 →
            J76 a)))) ∧ (400 < ((σ1 41 11) + 20) →
      K (-1) σ1))
abbrev rm_M_feed : Room := { frames := 0, cells := 0, slots := 0, locals := 0 }
set_option maxRecDepth 20000 in
set_option maxHeartbeats 4000000 in
theorem s_M_feed {Ω : zO} {ad : Nat → Nat} {a : Int} {b : Int} {c : Int} {d : Int} {e : Int} {K : Int → zS → Prop} {σ : zS} (ha : zR a) (hb : zR b) (hc : zR c) (hd : zR d) (he : zR e) (h : q_M_feed a b c d e K σ) : zMi Ω y_M_feed (.code y_M_feed c_M_feed 8 (some .int)) rm_M_feed zLy ad [.ref (ad 41), .int (zI a), .int (zI b), .int (zI c), .int (zI d), .int (zI e)] σ K := by
  refine z_ofi (lv := [(0, .ref (ad 41)), (1, .int (zI a)), (2, .int (zI b)), (3, .int (zI c)), (4, .int (zI d)), (5, .int (zI e))]) (by decide) rfl (Nat.le_of_ble_eq_true rfl) ?_
  intro Γ Q cx rt
  unfold q_M_feed at h
  refine v_aload_n cx 0 d_M_feed_0 rfl rfl ?_
  refine v_iconst cx d_M_feed_1 ?_
  refine pf_M_87 cx ⟨by decide, by decide⟩ d_M_feed_2 ?_
  refine v_ns (fun σ1 eσ1 => ?_)
  replace h := h σ1 eσ1
  refine v_aload_n cx 0 d_M_feed_5 rfl rfl ?_
  refine gf_M_215 cx d_M_feed_6 (fun hl2 => ?_)
  refine v_bipush cx (by decide) d_M_feed_9 ?_
  refine v_iadd cx d_M_feed_11 ?_
  refine v_sipush cx (by decide) d_M_feed_12 ?_
  obtain ⟨hr3, h⟩ := h
  refine v_icmp_le cx 20 d_M_feed_15 (by decide) hr3 ⟨by decide, by decide⟩ (fun c4 => ?_) (fun c4 => ?_)
  · replace h := h.1 c4
    refine v_iconst cx d_M_feed_20 ?_
    refine v_istore (lv' := [(0, .ref (ad 41)), (1, .int (zI a)), (2, .int (zI b)), (3, .int (zI c)), (4, .int (zI d)), (5, .int (zI e)), (6, .int (zI 0))]) cx d_M_feed_21 (by decide) rfl rfl ?_
    obtain ⟨I23, μ23, h0, h⟩ := h
    have L23 : ∀ (N23 : Nat) (y5 : Int) (σ6 : zS), μ23 y5 σ6 < N23 → I23 y5 σ6 → zR y5 → zV Ω Γ rm_M_feed 8 Q 0 0 zLy ad σ6 23 [(0, .ref (ad 41)), (1, .int (zI a)), (2, .int (zI b)), (3, .int (zI c)), (4, .int (zI d)), (5, .int (zI e)), (6, .int (zI y5))] [] := by
      intro N23
      induction N23 with
      | zero => intro y5 σ6 hm; exact absurd hm (Nat.not_lt_zero _)
      | succ N23 ih23 =>
        intro y5 σ6 hmm23 hI hy5
        replace h := h y5 σ6 hI hy5
        refine v_iload cx 6 d_M_feed_23 rfl ?_
        refine v_bipush cx (by decide) d_M_feed_25 ?_
        refine v_icmp_ge cx 120 d_M_feed_27 (by decide) hy5 ⟨by decide, by decide⟩ (fun c7 => ?_) (fun c7 => ?_)
        · replace h := h.1 c7
          refine v_aload_n cx 0 d_M_feed_120 rfl rfl ?_
          refine gf_M_215 cx d_M_feed_121 (fun hl8 => ?_)
          exact rt _ _ _ _ _ _ (Nat.le_of_ble_eq_true rfl) (Nat.le_of_ble_eq_true rfl) d_M_feed_124 hl8 h
        · replace h := h.2 c7
          refine v_iload cx 6 d_M_feed_30 rfl ?_
          refine v_iconst cx d_M_feed_32 ?_
          obtain ⟨J76, hJ76, h⟩ := h
          have G76 : ∀ (w9 : Int), J76 w9 → zR w9 → zV Ω Γ rm_M_feed 8 Q 0 0 zLy ad σ6 76 [(0, .ref (ad 41)), (1, .int (zI a)), (2, .int (zI b)), (3, .int (zI c)), (4, .int (zI d)), (5, .int (zI e)), (6, .int (zI y5))] [.int (zI w9)] := by
            intro w9 hJ hw9
            replace h := hJ76 w9 hJ hw9
            refine v_istore (lv' := [(0, .ref (ad 41)), (1, .int (zI a)), (2, .int (zI b)), (3, .int (zI c)), (4, .int (zI d)), (5, .int (zI e)), (6, .int (zI y5)), (7, .int (zI w9))]) cx d_M_feed_76 (by decide) rfl rfl ?_
            refine v_aload_n cx 0 d_M_feed_78 rfl rfl ?_
            refine gf_M_31 cx d_M_feed_79 ?_
            refine v_aload_n cx 0 d_M_feed_82 rfl rfl ?_
            refine gf_M_215 cx d_M_feed_83 (fun hl10 => ?_)
            refine v_iload cx 7 d_M_feed_86 rfl ?_
            refine v_bipush cx (by decide) d_M_feed_88 ?_
            refine v_bipush cx (by decide) d_M_feed_90 ?_
            refine v_iload cx 6 d_M_feed_92 rfl ?_
            refine v_iconst cx d_M_feed_94 ?_
            refine v_irem cx d_M_feed_95 hy5 ⟨by decide, by decide⟩ (by decide) ?_
            refine v_imul cx d_M_feed_96 ?_
            refine v_isub cx d_M_feed_97 ?_
            refine v_iushr cx d_M_feed_98 ?_
            refine v_sipush cx (by decide) d_M_feed_99 ?_
            refine v_iand cx d_M_feed_102 ?_
            obtain ⟨hb11, h⟩ := h
            refine v_iast cx zl_49 (by decide) hb11.1 hb11.2 (zR_and _ _) d_M_feed_103 ?_
            refine v_ns (fun σ12 eσ12 => ?_)
            replace h := h σ12 eσ12
            refine v_aload_n cx 0 d_M_feed_104 rfl rfl ?_
            refine v_dup cx d_M_feed_105 rfl ?_
            refine gf_M_215 cx d_M_feed_106 (fun hl13 => ?_)
            refine v_iconst cx d_M_feed_109 ?_
            refine v_iadd cx d_M_feed_110 ?_
            obtain ⟨hr14, h⟩ := h
            refine pf_M_215 cx hr14 d_M_feed_111 ?_
            refine v_ns (fun σ15 eσ15 => ?_)
            replace h := h σ15 eσ15
            refine v_iinc (lv' := [(0, .ref (ad 41)), (1, .int (zI a)), (2, .int (zI b)), (3, .int (zI c)), (4, .int (zI d)), (5, .int (zI e)), (6, .int (zI (y5 + 1))), (7, .int (zI w9))]) cx 6 d_M_feed_114 rfl (by decide) rfl rfl ?_
            refine v_goto cx 23 d_M_feed_117 (by decide) ?_
            refine v_sb (lv' := [(0, .ref (ad 41)), (1, .int (zI a)), (2, .int (zI b)), (3, .int (zI c)), (4, .int (zI d)), (5, .int (zI e)), (6, .int (zI (y5 + 1)))]) [0, 1, 2, 3, 4, 5, 6] rfl ?_
            obtain ⟨hI2, hz17, hm2⟩ := h
            exact ih23 _ _ (Nat.lt_of_lt_of_le hm2 (Nat.le_of_lt_succ hmm23)) hI2 hz17
          refine v_icmp_ge cx 40 d_M_feed_33 (by decide) hy5 ⟨by decide, by decide⟩ (fun c18 => ?_) (fun c18 => ?_)
          · replace h := h.1 c18
            refine v_iload cx 6 d_M_feed_40 rfl ?_
            refine v_bipush cx (by decide) d_M_feed_42 ?_
            refine v_icmp_ge cx 51 d_M_feed_44 (by decide) hy5 ⟨by decide, by decide⟩ (fun c19 => ?_) (fun c19 => ?_)
            · replace h := h.1 c19
              refine v_iload cx 6 d_M_feed_51 rfl ?_
              refine v_bipush cx (by decide) d_M_feed_53 ?_
              refine v_icmp_ge cx 62 d_M_feed_55 (by decide) hy5 ⟨by decide, by decide⟩ (fun c20 => ?_) (fun c20 => ?_)
              · replace h := h.1 c20
                refine v_iload cx 6 d_M_feed_62 rfl ?_
                refine v_bipush cx (by decide) d_M_feed_64 ?_
                refine v_icmp_ge cx 74 d_M_feed_66 (by decide) hy5 ⟨by decide, by decide⟩ (fun c21 => ?_) (fun c21 => ?_)
                · replace h := h.1 c21
                  refine v_iload cx 5 d_M_feed_74 rfl ?_
                  have hJ2 := h
                  exact G76 _ hJ2 he
                · replace h := h.2 c21
                  refine v_iload cx 4 d_M_feed_69 rfl ?_
                  refine v_goto cx 76 d_M_feed_71 (by decide) ?_
                  have hJ2 := h
                  exact G76 _ hJ2 hd
              · replace h := h.2 c20
                refine v_iload_n cx 3 d_M_feed_58 rfl rfl ?_
                refine v_goto cx 76 d_M_feed_59 (by decide) ?_
                have hJ2 := h
                exact G76 _ hJ2 hc
            · replace h := h.2 c19
              refine v_iload_n cx 2 d_M_feed_47 rfl rfl ?_
              refine v_goto cx 76 d_M_feed_48 (by decide) ?_
              have hJ2 := h
              exact G76 _ hJ2 hb
          · replace h := h.2 c18
            refine v_iload_n cx 1 d_M_feed_36 rfl rfl ?_
            refine v_goto cx 76 d_M_feed_37 (by decide) ?_
            have hJ2 := h
            exact G76 _ hJ2 ha
    exact L23 _ _ _ (Nat.lt_succ_self _) h0 ⟨by decide, by decide⟩
  · replace h := h.2 c4
    refine v_iconst cx d_M_feed_18 ?_
    exact rt _ _ _ _ _ _ (Nat.le_of_ble_eq_true rfl) (Nat.le_of_ble_eq_true rfl) d_M_feed_19 ⟨by decide, by decide⟩ h
def q_M_end (n_ : Int) (K : Int → zS → Prop) (σ : zS) : Prop :=
  ∀ σ1 : zS, σ1 = zU σ 41 0 0 → q_M_isIn n_ 0 (σ1 41 11) (fun r4 σ3 =>
    (r4 ≠ 0 →
      ∀ σ6 : zS, σ6 = zU σ3 41 11 n_ → K 1 σ6) ∧ (r4 = 0 →
      K 0 σ3)) σ1
abbrev rm_M_end : Room := { frames := 1, cells := 0, slots := 0, locals := 22 }
set_option maxRecDepth 20000 in
set_option maxHeartbeats 4000000 in
theorem s_M_end {Ω : zO} {ad : Nat → Nat} {n_ : Int} {K : Int → zS → Prop} {σ : zS} (hn_ : zR n_) (h : q_M_end n_ K σ) : zMz Ω y_M_end (.code y_M_end c_M_end 2 (some .boolean)) rm_M_end zLy ad [.ref (ad 41), .int (zI n_)] σ K := by
  refine z_ofz (lv := [(0, .ref (ad 41)), (1, .int (zI n_))]) (by decide) rfl (Nat.le_of_ble_eq_true rfl) ?_
  intro Γ Q cx rt
  unfold q_M_end at h
  refine v_aload_n cx 0 d_M_end_0 rfl rfl ?_
  refine v_iconst cx d_M_end_1 ?_
  refine pf_M_87 cx ⟨by decide, by decide⟩ d_M_end_2 ?_
  refine v_ns (fun σ1 eσ1 => ?_)
  replace h := h σ1 eσ1
  refine v_iload_n cx 1 d_M_end_5 rfl rfl ?_
  refine v_iconst cx d_M_end_6 ?_
  refine v_aload_n cx 0 d_M_end_7 rfl rfl ?_
  refine gf_M_215 cx d_M_end_8 (fun hl2 => ?_)
  refine v_callSz0 (st := []) cx (s_M_isIn hn_ ⟨by decide, by decide⟩ hl2 h) yk_M_isIn lk_M_94 rfl rfl (Nat.le_of_ble_eq_true rfl) ⟨Nat.le_of_ble_eq_true rfl, Nat.le_of_ble_eq_true rfl⟩ ⟨rfl, rfl⟩ ⟨(Nat.le_of_ble_eq_true rfl), (Nat.le_of_ble_eq_true rfl)⟩ d_M_end_11 (fun r4 σ3 hr4 h => ?_)
  refine v_if_ne cx 19 d_M_end_14 (by decide) (zR_b hr4) (fun c5 => ?_) (fun c5 => ?_)
  · replace h := h.1 c5
    refine v_aload_n cx 0 d_M_end_19 rfl rfl ?_
    refine v_iload_n cx 1 d_M_end_20 rfl rfl ?_
    refine pf_M_215 cx hn_ d_M_end_21 ?_
    refine v_ns (fun σ6 eσ6 => ?_)
    replace h := h σ6 eσ6
    refine v_iconst cx d_M_end_24 ?_
    exact rt _ _ _ _ _ _ (Nat.le_of_ble_eq_true rfl) (Nat.le_of_ble_eq_true rfl) d_M_end_25 (Or.inr rfl) h
  · replace h := h.2 c5
    refine v_iconst cx d_M_end_17 ?_
    exact rt _ _ _ _ _ _ (Nat.le_of_ble_eq_true rfl) (Nat.le_of_ble_eq_true rfl) d_M_end_18 (Or.inl rfl) h
def q_M_here (K : Int → zS → Prop) (σ : zS) : Prop :=
  ∃ (I0 : zS → Prop) (μ0 : zS → Nat), (I0 σ) ∧ ∀ (σ1 : zS), I0 σ1 → 
  ((σ1 41 12) ≤ (σ1 41 13) →
    K (σ1 41 13) σ1) ∧ ((σ1 41 13) < (σ1 41 12) →
    (0 ≤ σ1 41 13 ∧ σ1 41 13 < 400) ∧ (((σ1 49 (σ1 41 13)) ≠ 32 →
        K (σ1 41 13) σ1) ∧ ((σ1 49 (σ1 41 13)) = 32 →
        zR ((σ1 41 13) + 1) ∧ (∀ σ13 : zS, σ13 = zU σ1 41 13 ((σ1 41 13) + 1) → I0 σ13 ∧ μ0 σ13 < μ0 σ1))))
abbrev rm_M_here : Room := { frames := 0, cells := 0, slots := 0, locals := 0 }
set_option maxRecDepth 20000 in
set_option maxHeartbeats 4000000 in
theorem s_M_here {Ω : zO} {ad : Nat → Nat} {K : Int → zS → Prop} {σ : zS}  (h : q_M_here K σ) : zMi Ω y_M_here (.code y_M_here c_M_here 1 (some .int)) rm_M_here zLy ad [.ref (ad 41)] σ K := by
  refine z_ofi (lv := [(0, .ref (ad 41))]) (by decide) rfl (Nat.le_of_ble_eq_true rfl) ?_
  intro Γ Q cx rt
  unfold q_M_here at h
  obtain ⟨I0, μ0, h0, h⟩ := h
  have L0 : ∀ (N0 : Nat) (σ1 : zS), μ0 σ1 < N0 → I0 σ1 → zV Ω Γ rm_M_here 1 Q 0 0 zLy ad σ1 0 [(0, .ref (ad 41))] [] := by
    intro N0
    induction N0 with
    | zero => intro σ1 hm; exact absurd hm (Nat.not_lt_zero _)
    | succ N0 ih0 =>
      intro σ1 hmm0 hI 
      replace h := h σ1 hI 
      refine v_aload_n cx 0 d_M_here_0 rfl rfl ?_
      refine gf_M_218 cx d_M_here_1 (fun hl2 => ?_)
      refine v_aload_n cx 0 d_M_here_4 rfl rfl ?_
      refine gf_M_221 cx d_M_here_5 (fun hl3 => ?_)
      refine v_icmp_ge cx 38 d_M_here_8 (by decide) hl2 hl3 (fun c4 => ?_) (fun c4 => ?_)
      · replace h := h.1 c4
        refine v_aload_n cx 0 d_M_here_38 rfl rfl ?_
        refine gf_M_218 cx d_M_here_39 (fun hl5 => ?_)
        exact rt _ _ _ _ _ _ (Nat.le_of_ble_eq_true rfl) (Nat.le_of_ble_eq_true rfl) d_M_here_42 hl5 h
      · replace h := h.2 c4
        refine v_aload_n cx 0 d_M_here_11 rfl rfl ?_
        refine gf_M_31 cx d_M_here_12 ?_
        refine v_aload_n cx 0 d_M_here_15 rfl rfl ?_
        refine gf_M_218 cx d_M_here_16 (fun hl6 => ?_)
        obtain ⟨hb7, h⟩ := h
        refine v_iald cx zl_49 (by decide) hb7.1 hb7.2 d_M_here_19 (fun hl8 => ?_)
        refine v_bipush cx (by decide) d_M_here_20 ?_
        refine v_icmp_ne cx 38 d_M_here_22 (by decide) hl8 ⟨by decide, by decide⟩ (fun c9 => ?_) (fun c9 => ?_)
        · replace h := h.1 c9
          refine v_aload_n cx 0 d_M_here_38 rfl rfl ?_
          refine gf_M_218 cx d_M_here_39 (fun hl10 => ?_)
          exact rt _ _ _ _ _ _ (Nat.le_of_ble_eq_true rfl) (Nat.le_of_ble_eq_true rfl) d_M_here_42 hl10 h
        · replace h := h.2 c9
          refine v_aload_n cx 0 d_M_here_25 rfl rfl ?_
          refine v_dup cx d_M_here_26 rfl ?_
          refine gf_M_218 cx d_M_here_27 (fun hl11 => ?_)
          refine v_iconst cx d_M_here_30 ?_
          refine v_iadd cx d_M_here_31 ?_
          obtain ⟨hr12, h⟩ := h
          refine pf_M_218 cx hr12 d_M_here_32 ?_
          refine v_ns (fun σ13 eσ13 => ?_)
          replace h := h σ13 eσ13
          refine v_goto cx 0 d_M_here_35 (by decide) ?_
          obtain ⟨hI2, hm2⟩ := h
          exact ih0 _ (Nat.lt_of_lt_of_le hm2 (Nat.le_of_lt_succ hmm0)) hI2 
  exact L0 _ _ (Nat.lt_succ_self _) h0 
def q_M_wrong (place : Int) (K : zS → Prop) (σ : zS) : Prop :=
  ((σ 41 14) ≠ (-1) →
    K σ) ∧ ((σ 41 14) = (-1) →
    ∀ σ3 : zS, σ3 = zU σ 41 14 place → K σ3)
abbrev rm_M_wrong : Room := { frames := 0, cells := 0, slots := 0, locals := 0 }
set_option maxRecDepth 20000 in
set_option maxHeartbeats 4000000 in
theorem s_M_wrong {Ω : zO} {ad : Nat → Nat} {place : Int} {K : zS → Prop} {σ : zS} (hplace : zR place) (h : q_M_wrong place K σ) : zMv Ω y_M_wrong (.code y_M_wrong c_M_wrong 2 none) rm_M_wrong zLy ad [.ref (ad 41), .int (zI place)] σ K := by
  refine z_ofv (lv := [(0, .ref (ad 41)), (1, .int (zI place))]) (by decide) rfl (Nat.le_of_ble_eq_true rfl) ?_
  intro Γ Q cx rt
  unfold q_M_wrong at h
  refine v_aload_n cx 0 d_M_wrong_0 rfl rfl ?_
  refine gf_M_34 cx d_M_wrong_1 (fun hl1 => ?_)
  refine v_iconst cx d_M_wrong_4 ?_
  refine v_icmp_ne cx 13 d_M_wrong_5 (by decide) hl1 ⟨by decide, by decide⟩ (fun c2 => ?_) (fun c2 => ?_)
  · replace h := h.1 c2
    exact rt _ _ _ _ _ (Nat.le_of_ble_eq_true rfl) (Nat.le_of_ble_eq_true rfl) d_M_wrong_13 h
  · replace h := h.2 c2
    refine v_aload_n cx 0 d_M_wrong_8 rfl rfl ?_
    refine v_iload_n cx 1 d_M_wrong_9 rfl rfl ?_
    refine pf_M_34 cx hplace d_M_wrong_10 ?_
    refine v_ns (fun σ3 eσ3 => ?_)
    replace h := h σ3 eσ3
    exact rt _ _ _ _ _ (Nat.le_of_ble_eq_true rfl) (Nat.le_of_ble_eq_true rfl) d_M_wrong_13 h
def q_M_has (w : List Int) (K : Int → zS → Prop) (σ : zS) : Prop :=
  q_M_here (fun r2 σ1 =>
    ∃ (I5 : Int → zS → Prop) (μ5 : Int → zS → Nat), (I5 r2 σ1) ∧ ∀ (y3 : Int) (σ4 : zS), I5 y3 σ4 → zR y3 → 
    ∃ J35 : Int → zS → Prop, (∀ (w6 : Int) (σ7 : zS), J35 w6 σ7 → zR w6 → 
      ((σ7 41 14) ≠ (-1) →
        K 0 σ7) ∧ ((σ7 41 14) = (-1) →
        q_J_len w (fun r12 σ11 =>
          zR (w6 - (σ7 41 13)) ∧ (((w6 - (σ7 41 13)) = r12 →
              ∃ (I60 : Int → zS → Prop) (μ60 : Int → zS → Nat), (I60 0 σ11) ∧ ∀ (y15 : Int) (σ16 : zS), I60 y15 σ16 → zR y15 → 
              q_J_len w (fun r18 σ17 =>
                (r18 ≤ y15 →
                  ∀ σ20 : zS, σ20 = zU σ17 41 13 w6 → K 1 σ20) ∧ (y15 < r18 →
                  (0 ≤ (σ17 41 13) + y15 ∧ (σ17 41 13) + y15 < 400) ∧ (q_J_charAt w y15 (fun r25 σ24 =>
                      ((σ17 49 ((σ17 41 13) + y15)) = r25 →
                        I60 (y15 + 1) σ24 ∧ zR (y15 + 1) ∧ μ60 (y15 + 1) σ24 < μ60 y15 σ16) ∧ ((σ17 49 ((σ17 41 13) + y15)) ≠ r25 →
                        K 0 σ24)) σ17))) σ16) ∧ ((w6 - (σ7 41 13)) ≠ r12 →
              K 0 σ11))) σ7)) ∧
    (((σ4 41 12) ≤ y3 →
        J35 y3 σ4) ∧ (y3 < (σ4 41 12) →
        (0 ≤ y3 ∧ y3 < 400) ∧ (q_M_isIn (σ4 49 y3) 97 122 (fun r33 σ32 =>
            (r33 = 0 →
              J35 y3 σ32) ∧ (r33 ≠ 0 →
              I5 (y3 + 1) σ32 ∧ zR (y3 + 1) ∧ μ5 (y3 + 1) σ32 < μ5 y3 σ4)) σ4)))) σ
abbrev rm_M_has : Room := { frames := 4, cells := 0, slots := 0, locals := 85 }
set_option maxRecDepth 20000 in
set_option maxHeartbeats 4000000 in
theorem s_M_has {Ω : zO} {ad : Nat → Nat} {j : Nat} {w : List Int} {K : Int → zS → Prop} {σ : zS} (hj : (j, w) ∈ zSB) (h : q_M_has w K σ) : zMz Ω y_M_has (.code y_M_has c_M_has 4 (some .boolean)) rm_M_has zLy ad [.ref (ad 41), .ref (Ω.2.2.2.2 j)] σ K := by
  refine z_ofz (lv := [(0, .ref (ad 41)), (1, .ref (Ω.2.2.2.2 j))]) (by decide) rfl (Nat.le_of_ble_eq_true rfl) ?_
  intro Γ Q cx rt
  unfold q_M_has at h
  refine v_aload_n cx 0 d_M_has_0 rfl rfl ?_
  refine v_callVi0 (st := []) cx (s_M_here  h) yk_M_here lk_M_224 zl_41 rfl rfl rfl (Nat.le_of_ble_eq_true rfl) ⟨Nat.le_of_ble_eq_true rfl, Nat.le_of_ble_eq_true rfl⟩ ⟨rfl, rfl⟩ ⟨(Nat.le_of_ble_eq_true rfl), (Nat.le_of_ble_eq_true rfl)⟩ d_M_has_1 (fun r2 σ1 hr2 h => ?_)
  refine v_istore_n (lv' := [(0, .ref (ad 41)), (1, .ref (Ω.2.2.2.2 j)), (2, .int (zI r2))]) cx d_M_has_4 rfl (by decide) rfl rfl ?_
  obtain ⟨I5, μ5, h0, h⟩ := h
  have L5 : ∀ (N5 : Nat) (y3 : Int) (σ4 : zS), μ5 y3 σ4 < N5 → I5 y3 σ4 → zR y3 → zV Ω Γ rm_M_has 4 Q 0 0 zLy ad σ4 5 [(0, .ref (ad 41)), (1, .ref (Ω.2.2.2.2 j)), (2, .int (zI y3))] [] := by
    intro N5
    induction N5 with
    | zero => intro y3 σ4 hm; exact absurd hm (Nat.not_lt_zero _)
    | succ N5 ih5 =>
      intro y3 σ4 hmm5 hI hy3
      replace h := h y3 σ4 hI hy3
      refine v_iload_n cx 2 d_M_has_5 rfl rfl ?_
      refine v_aload_n cx 0 d_M_has_6 rfl rfl ?_
      refine gf_M_221 cx d_M_has_7 (fun hl5 => ?_)
      obtain ⟨J35, hJ35, h⟩ := h
      have G35 : ∀ (w6 : Int) (σ7 : zS), J35 w6 σ7 → zR w6 → zV Ω Γ rm_M_has 4 Q 0 0 zLy ad σ7 35 [(0, .ref (ad 41)), (1, .ref (Ω.2.2.2.2 j)), (2, .int (zI w6))] [] := by
        intro w6 σ7 hJ hw6
        replace h := hJ35 w6 σ7 hJ hw6
        refine v_aload_n cx 0 d_M_has_35 rfl rfl ?_
        refine gf_M_34 cx d_M_has_36 (fun hl8 => ?_)
        refine v_iconst cx d_M_has_39 ?_
        refine v_icmp_ne cx 56 d_M_has_40 (by decide) hl8 ⟨by decide, by decide⟩ (fun c9 => ?_) (fun c9 => ?_)
        · replace h := h.1 c9
          refine v_iconst cx d_M_has_56 ?_
          exact rt _ _ _ _ _ _ (Nat.le_of_ble_eq_true rfl) (Nat.le_of_ble_eq_true rfl) d_M_has_57 (Or.inl rfl) h
        · replace h := h.2 c9
          refine v_iload_n cx 2 d_M_has_43 rfl rfl ?_
          refine v_aload_n cx 0 d_M_has_44 rfl rfl ?_
          refine gf_M_218 cx d_M_has_45 (fun hl10 => ?_)
          refine v_isub cx d_M_has_48 ?_
          refine v_aload_n cx 1 d_M_has_49 rfl rfl ?_
          refine v_callTi0 (st := [.int (zI (w6 - (σ7 41 13)))]) cx (s2_J_len hj h) yk_J_len lk_M_227 hj rfl rfl rfl (Nat.le_of_ble_eq_true rfl) ⟨Nat.le_of_ble_eq_true rfl, Nat.le_of_ble_eq_true rfl⟩ ⟨rfl, rfl⟩ ⟨Nat.le_of_ble_eq_true rfl, Nat.le_of_ble_eq_true rfl⟩ d_M_has_50 (fun r12 σ11 hr12 h => ?_)
          obtain ⟨hr13, h⟩ := h
          refine v_icmp_eq cx 58 d_M_has_53 (by decide) hr13 hr12 (fun c14 => ?_) (fun c14 => ?_)
          · replace h := h.1 c14
            refine v_iconst cx d_M_has_58 ?_
            refine v_istore_n (lv' := [(0, .ref (ad 41)), (1, .ref (Ω.2.2.2.2 j)), (2, .int (zI w6)), (3, .int (zI 0))]) cx d_M_has_59 rfl (by decide) rfl rfl ?_
            obtain ⟨I60, μ60, h0, h⟩ := h
            have L60 : ∀ (N60 : Nat) (y15 : Int) (σ16 : zS), μ60 y15 σ16 < N60 → I60 y15 σ16 → zR y15 → zV Ω Γ rm_M_has 4 Q 0 0 zLy ad σ16 60 [(0, .ref (ad 41)), (1, .ref (Ω.2.2.2.2 j)), (2, .int (zI w6)), (3, .int (zI y15))] [] := by
              intro N60
              induction N60 with
              | zero => intro y15 σ16 hm; exact absurd hm (Nat.not_lt_zero _)
              | succ N60 ih60 =>
                intro y15 σ16 hmm60 hI hy15
                replace h := h y15 σ16 hI hy15
                refine v_iload_n cx 3 d_M_has_60 rfl rfl ?_
                refine v_aload_n cx 1 d_M_has_61 rfl rfl ?_
                refine v_callTi0 (st := [.int (zI y15)]) cx (s2_J_len hj h) yk_J_len lk_M_227 hj rfl rfl rfl (Nat.le_of_ble_eq_true rfl) ⟨Nat.le_of_ble_eq_true rfl, Nat.le_of_ble_eq_true rfl⟩ ⟨rfl, rfl⟩ ⟨Nat.le_of_ble_eq_true rfl, Nat.le_of_ble_eq_true rfl⟩ d_M_has_62 (fun r18 σ17 hr18 h => ?_)
                refine v_icmp_ge cx 95 d_M_has_65 (by decide) hy15 hr18 (fun c19 => ?_) (fun c19 => ?_)
                · replace h := h.1 c19
                  refine v_aload_n cx 0 d_M_has_95 rfl rfl ?_
                  refine v_iload_n cx 2 d_M_has_96 rfl rfl ?_
                  refine pf_M_218 cx hw6 d_M_has_97 ?_
                  refine v_ns (fun σ20 eσ20 => ?_)
                  replace h := h σ20 eσ20
                  refine v_iconst cx d_M_has_100 ?_
                  exact rt _ _ _ _ _ _ (Nat.le_of_ble_eq_true rfl) (Nat.le_of_ble_eq_true rfl) d_M_has_101 (Or.inr rfl) h
                · replace h := h.2 c19
                  refine v_aload_n cx 0 d_M_has_68 rfl rfl ?_
                  refine gf_M_31 cx d_M_has_69 ?_
                  refine v_aload_n cx 0 d_M_has_72 rfl rfl ?_
                  refine gf_M_218 cx d_M_has_73 (fun hl21 => ?_)
                  refine v_iload_n cx 3 d_M_has_76 rfl rfl ?_
                  refine v_iadd cx d_M_has_77 ?_
                  obtain ⟨hb22, h⟩ := h
                  refine v_iald cx zl_49 (by decide) hb22.1 hb22.2 d_M_has_78 (fun hl23 => ?_)
                  refine v_aload_n cx 1 d_M_has_79 rfl rfl ?_
                  refine v_iload_n cx 3 d_M_has_80 rfl rfl ?_
                  refine v_callTi0 (st := [.int (zI (σ17 49 ((σ17 41 13) + y15)))]) cx (s2_J_charAt hj hy15 h) yk_J_charAt lk_M_232 hj rfl rfl rfl (Nat.le_of_ble_eq_true rfl) ⟨Nat.le_of_ble_eq_true rfl, Nat.le_of_ble_eq_true rfl⟩ ⟨rfl, rfl⟩ ⟨Nat.le_of_ble_eq_true rfl, Nat.le_of_ble_eq_true rfl⟩ d_M_has_81 (fun r25 σ24 hr25 h => ?_)
                  refine v_icmp_eq cx 89 d_M_has_84 (by decide) hl23 hr25 (fun c26 => ?_) (fun c26 => ?_)
                  · replace h := h.1 c26
                    refine v_iinc (lv' := [(0, .ref (ad 41)), (1, .ref (Ω.2.2.2.2 j)), (2, .int (zI w6)), (3, .int (zI (y15 + 1)))]) cx 3 d_M_has_89 rfl (by decide) rfl rfl ?_
                    refine v_goto cx 60 d_M_has_92 (by decide) ?_
                    obtain ⟨hI2, hz28, hm2⟩ := h
                    exact ih60 _ _ (Nat.lt_of_lt_of_le hm2 (Nat.le_of_lt_succ hmm60)) hI2 hz28
                  · replace h := h.2 c26
                    refine v_iconst cx d_M_has_87 ?_
                    exact rt _ _ _ _ _ _ (Nat.le_of_ble_eq_true rfl) (Nat.le_of_ble_eq_true rfl) d_M_has_88 (Or.inl rfl) h
            exact L60 _ _ _ (Nat.lt_succ_self _) h0 ⟨by decide, by decide⟩
          · replace h := h.2 c14
            refine v_iconst cx d_M_has_56 ?_
            exact rt _ _ _ _ _ _ (Nat.le_of_ble_eq_true rfl) (Nat.le_of_ble_eq_true rfl) d_M_has_57 (Or.inl rfl) h
      refine v_icmp_ge cx 35 d_M_has_10 (by decide) hy3 hl5 (fun c29 => ?_) (fun c29 => ?_)
      · replace h := h.1 c29
        have hJ2 := h
        exact G35 _ _ hJ2 hy3
      · replace h := h.2 c29
        refine v_aload_n cx 0 d_M_has_13 rfl rfl ?_
        refine gf_M_31 cx d_M_has_14 ?_
        refine v_iload_n cx 2 d_M_has_17 rfl rfl ?_
        obtain ⟨hb30, h⟩ := h
        refine v_iald cx zl_49 (by decide) hb30.1 hb30.2 d_M_has_18 (fun hl31 => ?_)
        refine v_bipush cx (by decide) d_M_has_19 ?_
        refine v_bipush cx (by decide) d_M_has_21 ?_
        refine v_callSz0 (st := []) cx (s_M_isIn hl31 ⟨by decide, by decide⟩ ⟨by decide, by decide⟩ h) yk_M_isIn lk_M_94 rfl rfl (Nat.le_of_ble_eq_true rfl) ⟨Nat.le_of_ble_eq_true rfl, Nat.le_of_ble_eq_true rfl⟩ ⟨rfl, rfl⟩ ⟨(Nat.le_of_ble_eq_true rfl), (Nat.le_of_ble_eq_true rfl)⟩ d_M_has_23 (fun r33 σ32 hr33 h => ?_)
        refine v_if_eq cx 35 d_M_has_26 (by decide) (zR_b hr33) (fun c34 => ?_) (fun c34 => ?_)
        · replace h := h.1 c34
          have hJ2 := h
          exact G35 _ _ hJ2 hy3
        · replace h := h.2 c34
          refine v_iinc (lv' := [(0, .ref (ad 41)), (1, .ref (Ω.2.2.2.2 j)), (2, .int (zI (y3 + 1)))]) cx 2 d_M_has_29 rfl (by decide) rfl rfl ?_
          refine v_goto cx 5 d_M_has_32 (by decide) ?_
          obtain ⟨hI2, hz36, hm2⟩ := h
          exact ih5 _ _ (Nat.lt_of_lt_of_le hm2 (Nat.le_of_lt_succ hmm5)) hI2 hz36
  exact L5 _ _ _ (Nat.lt_succ_self _) h0 hr2
def q_M_expects (w : List Int) (K : zS → Prop) (σ : zS) : Prop :=
  ((σ 41 14) ≠ (-1) →
    K σ) ∧ ((σ 41 14) = (-1) →
    q_M_has w (fun r4 σ3 =>
      (r4 ≠ 0 →
        K σ3) ∧ (r4 = 0 →
        q_M_wrong (σ3 41 13) (fun σ7 =>
          K σ7) σ3)) σ)
abbrev rm_M_expects : Room := { frames := 5, cells := 0, slots := 0, locals := 108 }
set_option maxRecDepth 20000 in
set_option maxHeartbeats 4000000 in
theorem s_M_expects {Ω : zO} {ad : Nat → Nat} {j : Nat} {w : List Int} {K : zS → Prop} {σ : zS} (hj : (j, w) ∈ zSB) (h : q_M_expects w K σ) : zMv Ω y_M_expects (.code y_M_expects c_M_expects 2 none) rm_M_expects zLy ad [.ref (ad 41), .ref (Ω.2.2.2.2 j)] σ K := by
  refine z_ofv (lv := [(0, .ref (ad 41)), (1, .ref (Ω.2.2.2.2 j))]) (by decide) rfl (Nat.le_of_ble_eq_true rfl) ?_
  intro Γ Q cx rt
  unfold q_M_expects at h
  refine v_aload_n cx 0 d_M_expects_0 rfl rfl ?_
  refine gf_M_34 cx d_M_expects_1 (fun hl1 => ?_)
  refine v_iconst cx d_M_expects_4 ?_
  refine v_icmp_ne cx 24 d_M_expects_5 (by decide) hl1 ⟨by decide, by decide⟩ (fun c2 => ?_) (fun c2 => ?_)
  · replace h := h.1 c2
    exact rt _ _ _ _ _ (Nat.le_of_ble_eq_true rfl) (Nat.le_of_ble_eq_true rfl) d_M_expects_24 h
  · replace h := h.2 c2
    refine v_aload_n cx 0 d_M_expects_8 rfl rfl ?_
    refine v_aload_n cx 1 d_M_expects_9 rfl rfl ?_
    refine v_callVz0 (st := []) cx (s_M_has hj h) yk_M_has lk_M_236 zl_41 rfl rfl rfl (Nat.le_of_ble_eq_true rfl) ⟨Nat.le_of_ble_eq_true rfl, Nat.le_of_ble_eq_true rfl⟩ ⟨rfl, rfl⟩ ⟨(Nat.le_of_ble_eq_true rfl), (Nat.le_of_ble_eq_true rfl)⟩ d_M_expects_10 (fun r4 σ3 hr4 h => ?_)
    refine v_if_ne cx 24 d_M_expects_13 (by decide) (zR_b hr4) (fun c5 => ?_) (fun c5 => ?_)
    · replace h := h.1 c5
      exact rt _ _ _ _ _ (Nat.le_of_ble_eq_true rfl) (Nat.le_of_ble_eq_true rfl) d_M_expects_24 h
    · replace h := h.2 c5
      refine v_aload_n cx 0 d_M_expects_16 rfl rfl ?_
      refine v_aload_n cx 0 d_M_expects_17 rfl rfl ?_
      refine gf_M_218 cx d_M_expects_18 (fun hl6 => ?_)
      refine v_callVv0 (st := []) cx (s_M_wrong hl6 h) yk_M_wrong lk_M_240 zl_41 rfl rfl rfl (Nat.le_of_ble_eq_true rfl) ⟨Nat.le_of_ble_eq_true rfl, Nat.le_of_ble_eq_true rfl⟩ ⟨rfl, rfl⟩ ⟨(Nat.le_of_ble_eq_true rfl), (Nat.le_of_ble_eq_true rfl)⟩ d_M_expects_21 (fun σ7 h => ?_)
      exact rt _ _ _ _ _ (Nat.le_of_ble_eq_true rfl) (Nat.le_of_ble_eq_true rfl) d_M_expects_24 h
def q_M_number (low : Int) (high : Int) (K : Int → zS → Prop) (σ : zS) : Prop :=
  ((σ 41 14) = (-1) →
    q_M_here (fun r4 σ3 =>
      ∃ (I18 : Int → zS → Prop) (μ18 : Int → zS → Nat), (I18 0 σ3) ∧ ∀ (y5 : Int) (σ6 : zS), I18 y5 σ6 → zR y5 → 
      ∃ J91 : Int → zS → Prop, (∀ (w9 : Int) (σ10 : zS), J91 w9 σ10 → zR w9 → 
        ((σ10 41 13) = r4 →
          q_M_wrong r4 (fun σ13 =>
            K w9 σ13) σ10) ∧ ((σ10 41 13) ≠ r4 →
          zR ((σ10 41 13) - r4) ∧ ((2 < ((σ10 41 13) - r4) →
              q_M_wrong r4 (fun σ17 =>
                K w9 σ17) σ10) ∧ (((σ10 41 13) - r4) ≤ 2 →
              (w9 < low →
                q_M_wrong r4 (fun σ19 =>
                  K w9 σ19) σ10) ∧ (low ≤ w9 →
                (w9 ≤ high →
                  K w9 σ10) ∧ (high < w9 →
                  q_M_wrong r4 (fun σ21 =>
                    K w9 σ21) σ10)))))) ∧
      (((σ6 41 12) ≤ (σ6 41 13) →
          J91 y5 σ6) ∧ ((σ6 41 13) < (σ6 41 12) →
          (0 ≤ σ6 41 13 ∧ σ6 41 13 < 400) ∧ (q_M_isIn (σ6 49 (σ6 41 13)) 48 57 (fun r27 σ26 =>
              (r27 = 0 →
                J91 y5 σ26) ∧ (r27 ≠ 0 →
                zR ((σ26 41 13) - r4) ∧ ((2 < ((σ26 41 13) - r4) →
                    J91 y5 σ26) ∧ (((σ26 41 13) - r4) ≤ 2 →
                    (0 ≤ σ26 41 13 ∧ σ26 41 13 < 400) ∧ (∀ x35 : Int, x35 = ((10 * y5) + (σ26 49 (σ26 41 13))) - 48 → zR ((σ26 41 13) + 1) ∧ (∀ σ38 : zS, σ38 = zU σ26 41 13 ((σ26 41 13) + 1) → I18 x35 σ38 ∧ zR x35 ∧ μ18 x35 σ38 < μ18 y5 σ6)))))) σ6)))) σ) ∧ ((σ 41 14) ≠ (-1) →
    K 0 σ)
abbrev rm_M_number : Room := { frames := 1, cells := 0, slots := 0, locals := 22 }
set_option maxRecDepth 20000 in
set_option maxHeartbeats 4000000 in
theorem s_M_number {Ω : zO} {ad : Nat → Nat} {low : Int} {high : Int} {K : Int → zS → Prop} {σ : zS} (hlow : zR low) (hhigh : zR high) (h : q_M_number low high K σ) : zMi Ω y_M_number (.code y_M_number c_M_number 5 (some .int)) rm_M_number zLy ad [.ref (ad 41), .int (zI low), .int (zI high)] σ K := by
  refine z_ofi (lv := [(0, .ref (ad 41)), (1, .int (zI low)), (2, .int (zI high))]) (by decide) rfl (Nat.le_of_ble_eq_true rfl) ?_
  intro Γ Q cx rt
  unfold q_M_number at h
  refine v_aload_n cx 0 d_M_number_0 rfl rfl ?_
  refine gf_M_34 cx d_M_number_1 (fun hl1 => ?_)
  refine v_iconst cx d_M_number_4 ?_
  refine v_icmp_eq cx 10 d_M_number_5 (by decide) hl1 ⟨by decide, by decide⟩ (fun c2 => ?_) (fun c2 => ?_)
  · replace h := h.1 c2
    refine v_aload_n cx 0 d_M_number_10 rfl rfl ?_
    refine v_callVi0 (st := []) cx (s_M_here  h) yk_M_here lk_M_224 zl_41 rfl rfl rfl (Nat.le_of_ble_eq_true rfl) ⟨Nat.le_of_ble_eq_true rfl, Nat.le_of_ble_eq_true rfl⟩ ⟨rfl, rfl⟩ ⟨(Nat.le_of_ble_eq_true rfl), (Nat.le_of_ble_eq_true rfl)⟩ d_M_number_11 (fun r4 σ3 hr4 h => ?_)
    refine v_istore_n (lv' := [(0, .ref (ad 41)), (1, .int (zI low)), (2, .int (zI high)), (3, .int (zI r4))]) cx d_M_number_14 rfl (by decide) rfl rfl ?_
    refine v_iconst cx d_M_number_15 ?_
    refine v_istore (lv' := [(0, .ref (ad 41)), (1, .int (zI low)), (2, .int (zI high)), (3, .int (zI r4)), (4, .int (zI 0))]) cx d_M_number_16 (by decide) rfl rfl ?_
    obtain ⟨I18, μ18, h0, h⟩ := h
    have L18 : ∀ (N18 : Nat) (y5 : Int) (σ6 : zS), μ18 y5 σ6 < N18 → I18 y5 σ6 → zR y5 → zV Ω Γ rm_M_number 5 Q 0 0 zLy ad σ6 18 [(0, .ref (ad 41)), (1, .int (zI low)), (2, .int (zI high)), (3, .int (zI r4)), (4, .int (zI y5))] [] := by
      intro N18
      induction N18 with
      | zero => intro y5 σ6 hm; exact absurd hm (Nat.not_lt_zero _)
      | succ N18 ih18 =>
        intro y5 σ6 hmm18 hI hy5
        replace h := h y5 σ6 hI hy5
        refine v_aload_n cx 0 d_M_number_18 rfl rfl ?_
        refine gf_M_218 cx d_M_number_19 (fun hl7 => ?_)
        refine v_aload_n cx 0 d_M_number_22 rfl rfl ?_
        refine gf_M_221 cx d_M_number_23 (fun hl8 => ?_)
        obtain ⟨J91, hJ91, h⟩ := h
        have G91 : ∀ (w9 : Int) (σ10 : zS), J91 w9 σ10 → zR w9 → zV Ω Γ rm_M_number 5 Q 0 0 zLy ad σ10 91 [(0, .ref (ad 41)), (1, .int (zI low)), (2, .int (zI high)), (3, .int (zI r4)), (4, .int (zI w9))] [] := by
          intro w9 σ10 hJ hw9
          replace h := hJ91 w9 σ10 hJ hw9
          refine v_aload_n cx 0 d_M_number_91 rfl rfl ?_
          refine gf_M_218 cx d_M_number_92 (fun hl11 => ?_)
          refine v_iload_n cx 3 d_M_number_95 rfl rfl ?_
          refine v_icmp_eq cx 121 d_M_number_96 (by decide) hl11 hr4 (fun c12 => ?_) (fun c12 => ?_)
          · replace h := h.1 c12
            refine v_aload_n cx 0 d_M_number_121 rfl rfl ?_
            refine v_iload_n cx 3 d_M_number_122 rfl rfl ?_
            refine v_callVv0 (st := []) cx (s_M_wrong hr4 h) yk_M_wrong lk_M_240 zl_41 rfl rfl rfl (Nat.le_of_ble_eq_true rfl) ⟨Nat.le_of_ble_eq_true rfl, Nat.le_of_ble_eq_true rfl⟩ ⟨rfl, rfl⟩ ⟨(Nat.le_of_ble_eq_true rfl), (Nat.le_of_ble_eq_true rfl)⟩ d_M_number_123 (fun σ13 h => ?_)
            refine v_iload cx 4 d_M_number_126 rfl ?_
            exact rt _ _ _ _ _ _ (Nat.le_of_ble_eq_true rfl) (Nat.le_of_ble_eq_true rfl) d_M_number_128 hw9 h
          · replace h := h.2 c12
            refine v_aload_n cx 0 d_M_number_99 rfl rfl ?_
            refine gf_M_218 cx d_M_number_100 (fun hl14 => ?_)
            refine v_iload_n cx 3 d_M_number_103 rfl rfl ?_
            refine v_isub cx d_M_number_104 ?_
            refine v_iconst cx d_M_number_105 ?_
            obtain ⟨hr15, h⟩ := h
            refine v_icmp_gt cx 121 d_M_number_106 (by decide) hr15 ⟨by decide, by decide⟩ (fun c16 => ?_) (fun c16 => ?_)
            · replace h := h.1 c16
              refine v_aload_n cx 0 d_M_number_121 rfl rfl ?_
              refine v_iload_n cx 3 d_M_number_122 rfl rfl ?_
              refine v_callVv0 (st := []) cx (s_M_wrong hr4 h) yk_M_wrong lk_M_240 zl_41 rfl rfl rfl (Nat.le_of_ble_eq_true rfl) ⟨Nat.le_of_ble_eq_true rfl, Nat.le_of_ble_eq_true rfl⟩ ⟨rfl, rfl⟩ ⟨(Nat.le_of_ble_eq_true rfl), (Nat.le_of_ble_eq_true rfl)⟩ d_M_number_123 (fun σ17 h => ?_)
              refine v_iload cx 4 d_M_number_126 rfl ?_
              exact rt _ _ _ _ _ _ (Nat.le_of_ble_eq_true rfl) (Nat.le_of_ble_eq_true rfl) d_M_number_128 hw9 h
            · replace h := h.2 c16
              refine v_iload cx 4 d_M_number_109 rfl ?_
              refine v_iload_n cx 1 d_M_number_111 rfl rfl ?_
              refine v_icmp_lt cx 121 d_M_number_112 (by decide) hw9 hlow (fun c18 => ?_) (fun c18 => ?_)
              · replace h := h.1 c18
                refine v_aload_n cx 0 d_M_number_121 rfl rfl ?_
                refine v_iload_n cx 3 d_M_number_122 rfl rfl ?_
                refine v_callVv0 (st := []) cx (s_M_wrong hr4 h) yk_M_wrong lk_M_240 zl_41 rfl rfl rfl (Nat.le_of_ble_eq_true rfl) ⟨Nat.le_of_ble_eq_true rfl, Nat.le_of_ble_eq_true rfl⟩ ⟨rfl, rfl⟩ ⟨(Nat.le_of_ble_eq_true rfl), (Nat.le_of_ble_eq_true rfl)⟩ d_M_number_123 (fun σ19 h => ?_)
                refine v_iload cx 4 d_M_number_126 rfl ?_
                exact rt _ _ _ _ _ _ (Nat.le_of_ble_eq_true rfl) (Nat.le_of_ble_eq_true rfl) d_M_number_128 hw9 h
              · replace h := h.2 c18
                refine v_iload cx 4 d_M_number_115 rfl ?_
                refine v_iload_n cx 2 d_M_number_117 rfl rfl ?_
                refine v_icmp_le cx 126 d_M_number_118 (by decide) hw9 hhigh (fun c20 => ?_) (fun c20 => ?_)
                · replace h := h.1 c20
                  refine v_iload cx 4 d_M_number_126 rfl ?_
                  exact rt _ _ _ _ _ _ (Nat.le_of_ble_eq_true rfl) (Nat.le_of_ble_eq_true rfl) d_M_number_128 hw9 h
                · replace h := h.2 c20
                  refine v_aload_n cx 0 d_M_number_121 rfl rfl ?_
                  refine v_iload_n cx 3 d_M_number_122 rfl rfl ?_
                  refine v_callVv0 (st := []) cx (s_M_wrong hr4 h) yk_M_wrong lk_M_240 zl_41 rfl rfl rfl (Nat.le_of_ble_eq_true rfl) ⟨Nat.le_of_ble_eq_true rfl, Nat.le_of_ble_eq_true rfl⟩ ⟨rfl, rfl⟩ ⟨(Nat.le_of_ble_eq_true rfl), (Nat.le_of_ble_eq_true rfl)⟩ d_M_number_123 (fun σ21 h => ?_)
                  refine v_iload cx 4 d_M_number_126 rfl ?_
                  exact rt _ _ _ _ _ _ (Nat.le_of_ble_eq_true rfl) (Nat.le_of_ble_eq_true rfl) d_M_number_128 hw9 h
        refine v_icmp_ge cx 91 d_M_number_26 (by decide) hl7 hl8 (fun c22 => ?_) (fun c22 => ?_)
        · replace h := h.1 c22
          have hJ2 := h
          exact G91 _ _ hJ2 hy5
        · replace h := h.2 c22
          refine v_aload_n cx 0 d_M_number_29 rfl rfl ?_
          refine gf_M_31 cx d_M_number_30 ?_
          refine v_aload_n cx 0 d_M_number_33 rfl rfl ?_
          refine gf_M_218 cx d_M_number_34 (fun hl23 => ?_)
          obtain ⟨hb24, h⟩ := h
          refine v_iald cx zl_49 (by decide) hb24.1 hb24.2 d_M_number_37 (fun hl25 => ?_)
          refine v_bipush cx (by decide) d_M_number_38 ?_
          refine v_bipush cx (by decide) d_M_number_40 ?_
          refine v_callSz0 (st := []) cx (s_M_isIn hl25 ⟨by decide, by decide⟩ ⟨by decide, by decide⟩ h) yk_M_isIn lk_M_94 rfl rfl (Nat.le_of_ble_eq_true rfl) ⟨Nat.le_of_ble_eq_true rfl, Nat.le_of_ble_eq_true rfl⟩ ⟨rfl, rfl⟩ ⟨(Nat.le_of_ble_eq_true rfl), (Nat.le_of_ble_eq_true rfl)⟩ d_M_number_42 (fun r27 σ26 hr27 h => ?_)
          refine v_if_eq cx 91 d_M_number_45 (by decide) (zR_b hr27) (fun c28 => ?_) (fun c28 => ?_)
          · replace h := h.1 c28
            have hJ2 := h
            exact G91 _ _ hJ2 hy5
          · replace h := h.2 c28
            refine v_aload_n cx 0 d_M_number_48 rfl rfl ?_
            refine gf_M_218 cx d_M_number_49 (fun hl29 => ?_)
            refine v_iload_n cx 3 d_M_number_52 rfl rfl ?_
            refine v_isub cx d_M_number_53 ?_
            refine v_iconst cx d_M_number_54 ?_
            obtain ⟨hr30, h⟩ := h
            refine v_icmp_gt cx 91 d_M_number_55 (by decide) hr30 ⟨by decide, by decide⟩ (fun c31 => ?_) (fun c31 => ?_)
            · replace h := h.1 c31
              have hJ2 := h
              exact G91 _ _ hJ2 hy5
            · replace h := h.2 c31
              refine v_bipush cx (by decide) d_M_number_58 ?_
              refine v_iload cx 4 d_M_number_60 rfl ?_
              refine v_imul cx d_M_number_62 ?_
              refine v_aload_n cx 0 d_M_number_63 rfl rfl ?_
              refine gf_M_31 cx d_M_number_64 ?_
              refine v_aload_n cx 0 d_M_number_67 rfl rfl ?_
              refine gf_M_218 cx d_M_number_68 (fun hl32 => ?_)
              obtain ⟨hb33, h⟩ := h
              refine v_iald cx zl_49 (by decide) hb33.1 hb33.2 d_M_number_71 (fun hl34 => ?_)
              refine v_iadd cx d_M_number_72 ?_
              refine v_bipush cx (by decide) d_M_number_73 ?_
              refine v_isub cx d_M_number_75 ?_
              refine v_nm (fun x35 ex35 => ?_)
              replace h := h x35 ex35
              refine v_istore (lv' := [(0, .ref (ad 41)), (1, .int (zI low)), (2, .int (zI high)), (3, .int (zI r4)), (4, .int (zI x35))]) cx d_M_number_76 (by decide) rfl rfl ?_
              refine v_aload_n cx 0 d_M_number_78 rfl rfl ?_
              refine v_dup cx d_M_number_79 rfl ?_
              refine gf_M_218 cx d_M_number_80 (fun hl36 => ?_)
              refine v_iconst cx d_M_number_83 ?_
              refine v_iadd cx d_M_number_84 ?_
              obtain ⟨hr37, h⟩ := h
              refine pf_M_218 cx hr37 d_M_number_85 ?_
              refine v_ns (fun σ38 eσ38 => ?_)
              replace h := h σ38 eσ38
              refine v_goto cx 18 d_M_number_88 (by decide) ?_
              obtain ⟨hI2, hz39, hm2⟩ := h
              exact ih18 _ _ (Nat.lt_of_lt_of_le hm2 (Nat.le_of_lt_succ hmm18)) hI2 hz39
    exact L18 _ _ _ (Nat.lt_succ_self _) h0 ⟨by decide, by decide⟩
  · replace h := h.2 c2
    refine v_iconst cx d_M_number_8 ?_
    exact rt _ _ _ _ _ _ (Nat.le_of_ble_eq_true rfl) (Nat.le_of_ble_eq_true rfl) d_M_number_9 ⟨by decide, by decide⟩ h
def q_M_mustSign (K : zS → Prop) (σ : zS) : Prop :=
  ((σ 41 14) = (-1) →
    q_M_here (fun r4 σ3 =>
      ((σ3 41 12) ≤ r4 →
        q_M_wrong (σ3 41 13) (fun σ8 =>
          K σ8) σ3) ∧ (r4 < (σ3 41 12) →
        (0 ≤ σ3 41 13 ∧ σ3 41 13 < 400) ∧ (((σ3 49 (σ3 41 13)) ≠ 59 →
            q_M_wrong (σ3 41 13) (fun σ14 =>
              K σ14) σ3) ∧ ((σ3 49 (σ3 41 13)) = 59 →
            zR ((σ3 41 13) + 1) ∧ (∀ σ17 : zS, σ17 = zU σ3 41 13 ((σ3 41 13) + 1) → K σ17))))) σ) ∧ ((σ 41 14) ≠ (-1) →
    K σ)
abbrev rm_M_mustSign : Room := { frames := 1, cells := 0, slots := 0, locals := 21 }
set_option maxRecDepth 20000 in
set_option maxHeartbeats 4000000 in
theorem s_M_mustSign {Ω : zO} {ad : Nat → Nat} {K : zS → Prop} {σ : zS}  (h : q_M_mustSign K σ) : zMv Ω y_M_mustSign (.code y_M_mustSign c_M_mustSign 1 none) rm_M_mustSign zLy ad [.ref (ad 41)] σ K := by
  refine z_ofv (lv := [(0, .ref (ad 41))]) (by decide) rfl (Nat.le_of_ble_eq_true rfl) ?_
  intro Γ Q cx rt
  unfold q_M_mustSign at h
  refine v_aload_n cx 0 d_M_mustSign_0 rfl rfl ?_
  refine gf_M_34 cx d_M_mustSign_1 (fun hl1 => ?_)
  refine v_iconst cx d_M_mustSign_4 ?_
  refine v_icmp_eq cx 9 d_M_mustSign_5 (by decide) hl1 ⟨by decide, by decide⟩ (fun c2 => ?_) (fun c2 => ?_)
  · replace h := h.1 c2
    refine v_aload_n cx 0 d_M_mustSign_9 rfl rfl ?_
    refine v_callVi0 (st := []) cx (s_M_here  h) yk_M_here lk_M_224 zl_41 rfl rfl rfl (Nat.le_of_ble_eq_true rfl) ⟨Nat.le_of_ble_eq_true rfl, Nat.le_of_ble_eq_true rfl⟩ ⟨rfl, rfl⟩ ⟨(Nat.le_of_ble_eq_true rfl), (Nat.le_of_ble_eq_true rfl)⟩ d_M_mustSign_10 (fun r4 σ3 hr4 h => ?_)
    refine v_aload_n cx 0 d_M_mustSign_13 rfl rfl ?_
    refine gf_M_221 cx d_M_mustSign_14 (fun hl5 => ?_)
    refine v_icmp_ge cx 47 d_M_mustSign_17 (by decide) hr4 hl5 (fun c6 => ?_) (fun c6 => ?_)
    · replace h := h.1 c6
      refine v_aload_n cx 0 d_M_mustSign_47 rfl rfl ?_
      refine v_aload_n cx 0 d_M_mustSign_48 rfl rfl ?_
      refine gf_M_218 cx d_M_mustSign_49 (fun hl7 => ?_)
      refine v_callVv0 (st := []) cx (s_M_wrong hl7 h) yk_M_wrong lk_M_240 zl_41 rfl rfl rfl (Nat.le_of_ble_eq_true rfl) ⟨Nat.le_of_ble_eq_true rfl, Nat.le_of_ble_eq_true rfl⟩ ⟨rfl, rfl⟩ ⟨(Nat.le_of_ble_eq_true rfl), (Nat.le_of_ble_eq_true rfl)⟩ d_M_mustSign_52 (fun σ8 h => ?_)
      exact rt _ _ _ _ _ (Nat.le_of_ble_eq_true rfl) (Nat.le_of_ble_eq_true rfl) d_M_mustSign_55 h
    · replace h := h.2 c6
      refine v_aload_n cx 0 d_M_mustSign_20 rfl rfl ?_
      refine gf_M_31 cx d_M_mustSign_21 ?_
      refine v_aload_n cx 0 d_M_mustSign_24 rfl rfl ?_
      refine gf_M_218 cx d_M_mustSign_25 (fun hl9 => ?_)
      obtain ⟨hb10, h⟩ := h
      refine v_iald cx zl_49 (by decide) hb10.1 hb10.2 d_M_mustSign_28 (fun hl11 => ?_)
      refine v_bipush cx (by decide) d_M_mustSign_29 ?_
      refine v_icmp_ne cx 47 d_M_mustSign_31 (by decide) hl11 ⟨by decide, by decide⟩ (fun c12 => ?_) (fun c12 => ?_)
      · replace h := h.1 c12
        refine v_aload_n cx 0 d_M_mustSign_47 rfl rfl ?_
        refine v_aload_n cx 0 d_M_mustSign_48 rfl rfl ?_
        refine gf_M_218 cx d_M_mustSign_49 (fun hl13 => ?_)
        refine v_callVv0 (st := []) cx (s_M_wrong hl13 h) yk_M_wrong lk_M_240 zl_41 rfl rfl rfl (Nat.le_of_ble_eq_true rfl) ⟨Nat.le_of_ble_eq_true rfl, Nat.le_of_ble_eq_true rfl⟩ ⟨rfl, rfl⟩ ⟨(Nat.le_of_ble_eq_true rfl), (Nat.le_of_ble_eq_true rfl)⟩ d_M_mustSign_52 (fun σ14 h => ?_)
        exact rt _ _ _ _ _ (Nat.le_of_ble_eq_true rfl) (Nat.le_of_ble_eq_true rfl) d_M_mustSign_55 h
      · replace h := h.2 c12
        refine v_aload_n cx 0 d_M_mustSign_34 rfl rfl ?_
        refine v_dup cx d_M_mustSign_35 rfl ?_
        refine gf_M_218 cx d_M_mustSign_36 (fun hl15 => ?_)
        refine v_iconst cx d_M_mustSign_39 ?_
        refine v_iadd cx d_M_mustSign_40 ?_
        obtain ⟨hr16, h⟩ := h
        refine pf_M_218 cx hr16 d_M_mustSign_41 ?_
        refine v_ns (fun σ17 eσ17 => ?_)
        replace h := h σ17 eσ17
        refine v_goto cx 55 d_M_mustSign_44 (by decide) ?_
        exact rt _ _ _ _ _ (Nat.le_of_ble_eq_true rfl) (Nat.le_of_ble_eq_true rfl) d_M_mustSign_55 h
  · replace h := h.2 c2
    exact rt _ _ _ _ _ (Nat.le_of_ble_eq_true rfl) (Nat.le_of_ble_eq_true rfl) d_M_mustSign_8 h
