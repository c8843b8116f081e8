def q_M_spare (from_ : Int) (to_ : Int) (what : Int) (K : Int → zS → Prop) (σ : zS) : Prop :=
  q_M_isPlace from_ (fun r2 σ1 =>
    ∃ J44 : Int → zS → Prop, (∀ (w3 : Int) (σ4 : zS), J44 w3 σ4 → zR w3 → 
      ∀ σ5 : zS, σ5 = zU σ4 41 0 w3 → ((σ5 41 0) ≤ 0 →
        q_M_isWay from_ to_ 0 (fun r9 σ8 =>
          (r9 ≠ 0 →
            ∀ x12 : Int, x12 = σ8 41 20 → ∃ (I77 : Int → zS → Prop) (μ77 : Int → zS → Nat), (I77 0 σ8) ∧ ∀ (y13 : Int) (σ14 : zS), I77 y13 σ14 → zR y13 → 
            (x12 ≤ y13 →
              ∃ (I113 : Int → Int → Int → zS → Prop) (μ113 : Int → Int → Int → zS → Nat), (I113 (-1) (-1) 0 σ14) ∧ ∀ (y16 y17 y18 : Int) (σ19 : zS), I113 y16 y17 y18 σ19 → zR y16 → zR y17 → zR y18 → 
              zR (x12 - 1) ∧ (((x12 - 1) ≤ y18 →
                  ∀ σ22 : zS, σ22 = zU σ19 41 28 (-1) → ∀ σ23 : zS, σ23 = zU σ22 41 29 (-1) → (what ≠ 0 →
                    (y17 ≠ 1000000000 →
                      K y17 σ23) ∧ (y17 = 1000000000 →
                      K (-1) σ23)) ∧ (what = 0 →
                    K y16 σ23)) ∧ (y18 < (x12 - 1) →
                  (0 ≤ y18 ∧ y18 < 700) ∧ (∀ σ28 : zS, σ28 = zU σ19 41 28 (σ19 60 y18) → (0 ≤ y18 + 1 ∧ y18 + 1 < 700) ∧ (∀ σ31 : zS, σ31 = zU σ28 41 29 (σ28 60 (y18 + 1)) → q_M_goesFrom from_ (fun σ32 =>
                        q_M_costAt to_ (fun r34 σ33 =>
                          (y17 < r34 →
                            I113 y18 r34 (y18 + 1) σ33 ∧ zR (y18 + 1) ∧ μ113 y18 r34 (y18 + 1) σ33 < μ113 y16 y17 y18 σ19) ∧ (r34 ≤ y17 →
                            I113 y16 y17 (y18 + 1) σ33 ∧ zR (y18 + 1) ∧ μ113 y16 y17 (y18 + 1) σ33 < μ113 y16 y17 y18 σ19)) σ32) σ31))))) ∧ (y13 < x12 →
              (0 ≤ y13 ∧ y13 < 700) ∧ (∀ σ42 : zS, σ42 = zU σ14 60 y13 (σ14 54 y13) → I77 (y13 + 1) σ42 ∧ zR (y13 + 1) ∧ μ77 (y13 + 1) σ42 < μ77 y13 σ14))) ∧ (r9 = 0 →
            K (-1) σ8)) σ5) ∧ (0 < (σ5 41 0) →
        K 0 σ5)) ∧
    (∃ J17 : zS → Prop, (∀ (σ45 : zS), J17 σ45 → 
        J44 1 σ45) ∧
      ((r2 = 0 →
          J17 σ1) ∧ (r2 ≠ 0 →
          q_M_isPlace to_ (fun r48 σ47 =>
            (r48 ≠ 0 →
              q_M_isIn what 0 1 (fun r51 σ50 =>
                (r51 ≠ 0 →
                  (from_ ≠ to_ →
                    J44 0 σ50) ∧ (from_ = to_ →
                    J44 3 σ50)) ∧ (r51 = 0 →
                  J44 2 σ50)) σ47) ∧ (r48 = 0 →
              J17 σ47)) σ1)))) σ
abbrev rm_M_spare : Room := { frames := 7, cells := 0, slots := 0, locals := 180 }
set_option maxRecDepth 20000 in
set_option maxHeartbeats 4000000 in
theorem s_M_spare {Ω : zO} {ad : Nat → Nat} {from_ : Int} {to_ : Int} {what : Int} {K : Int → zS → Prop} {σ : zS} (hfrom_ : zR from_) (hto_ : zR to_) (hwhat : zR what) (h : q_M_spare from_ to_ what K σ) : zMi Ω y_M_spare (.code y_M_spare c_M_spare 9 (some .int)) rm_M_spare zLy ad [.ref (ad 41), .int (zI from_), .int (zI to_), .int (zI what)] σ K := by
  refine z_ofi (lv := [(0, .ref (ad 41)), (1, .int (zI from_)), (2, .int (zI to_)), (3, .int (zI what))]) (by decide) rfl (Nat.le_of_ble_eq_true rfl) ?_
  intro Γ Q cx rt
  unfold q_M_spare at h
  refine v_aload_n cx 0 d_M_spare_0 rfl rfl ?_
  refine v_aload_n cx 0 d_M_spare_1 rfl rfl ?_
  refine v_iload_n cx 1 d_M_spare_2 rfl rfl ?_
  refine v_callVz0 (st := [.ref (ad 41)]) cx (s_M_isPlace hfrom_ h) yk_M_isPlace lk_M_203 zl_41 rfl rfl rfl (Nat.le_of_ble_eq_true rfl) ⟨Nat.le_of_ble_eq_true rfl, Nat.le_of_ble_eq_true rfl⟩ ⟨rfl, rfl⟩ ⟨(Nat.le_of_ble_eq_true rfl), (Nat.le_of_ble_eq_true rfl)⟩ d_M_spare_3 (fun r2 σ1 hr2 h => ?_)
  obtain ⟨J44, hJ44, h⟩ := h
  have G44 : ∀ (w3 : Int) (σ4 : zS), J44 w3 σ4 → zR w3 → zV Ω Γ rm_M_spare 9 Q 0 0 zLy ad σ4 44 [(0, .ref (ad 41)), (1, .int (zI from_)), (2, .int (zI to_)), (3, .int (zI what))] [.int (zI w3), .ref (ad 41)] := by
    intro w3 σ4 hJ hw3
    replace h := hJ44 w3 σ4 hJ hw3
    refine pf_M_87 cx hw3 d_M_spare_44 ?_
    refine v_ns (fun σ5 eσ5 => ?_)
    replace h := h σ5 eσ5
    refine v_aload_n cx 0 d_M_spare_47 rfl rfl ?_
    refine gf_M_87 cx d_M_spare_48 (fun hl6 => ?_)
    refine v_if_le cx 56 d_M_spare_51 (by decide) hl6 (fun c7 => ?_) (fun c7 => ?_)
    · replace h := h.1 c7
      refine v_aload_n cx 0 d_M_spare_56 rfl rfl ?_
      refine v_iload_n cx 1 d_M_spare_57 rfl rfl ?_
      refine v_iload_n cx 2 d_M_spare_58 rfl rfl ?_
      refine v_iconst cx d_M_spare_59 ?_
      refine v_callVz0 (st := []) cx (s_M_isWay hfrom_ hto_ ⟨by decide, by decide⟩ h) yk_M_isWay lk_M_302 zl_41 rfl rfl rfl (Nat.le_of_ble_eq_true rfl) ⟨Nat.le_of_ble_eq_true rfl, Nat.le_of_ble_eq_true rfl⟩ ⟨rfl, rfl⟩ ⟨(Nat.le_of_ble_eq_true rfl), (Nat.le_of_ble_eq_true rfl)⟩ d_M_spare_60 (fun r9 σ8 hr9 h => ?_)
      refine v_if_ne cx 68 d_M_spare_63 (by decide) (zR_b hr9) (fun c10 => ?_) (fun c10 => ?_)
      · replace h := h.1 c10
        refine v_aload_n cx 0 d_M_spare_68 rfl rfl ?_
        refine gf_M_172 cx d_M_spare_69 (fun hl11 => ?_)
        refine v_nm (fun x12 ex12 => ?_)
        replace h := h x12 ex12
        have hx12 : zR x12 := by rw [ex12]; exact hl11
        refine v_istore (lv' := [(0, .ref (ad 41)), (1, .int (zI from_)), (2, .int (zI to_)), (3, .int (zI what)), (4, .int (zI x12))]) cx d_M_spare_72 (by decide) rfl rfl ?_
        refine v_iconst cx d_M_spare_74 ?_
        refine v_istore (lv' := [(0, .ref (ad 41)), (1, .int (zI from_)), (2, .int (zI to_)), (3, .int (zI what)), (4, .int (zI x12)), (5, .int (zI 0))]) cx d_M_spare_75 (by decide) rfl rfl ?_
        obtain ⟨I77, μ77, h0, h⟩ := h
        have L77 : ∀ (N77 : Nat) (y13 : Int) (σ14 : zS), μ77 y13 σ14 < N77 → I77 y13 σ14 → zR y13 → zV Ω Γ rm_M_spare 9 Q 0 0 zLy ad σ14 77 [(0, .ref (ad 41)), (1, .int (zI from_)), (2, .int (zI to_)), (3, .int (zI what)), (4, .int (zI x12)), (5, .int (zI y13))] [] := by
          intro N77
          induction N77 with
          | zero => intro y13 σ14 hm; exact absurd hm (Nat.not_lt_zero _)
          | succ N77 ih77 =>
            intro y13 σ14 hmm77 hI hy13
            replace h := h y13 σ14 hI hy13
            refine v_iload cx 5 d_M_spare_77 rfl ?_
            refine v_iload cx 4 d_M_spare_79 rfl ?_
            refine v_icmp_ge cx 104 d_M_spare_81 (by decide) hy13 hx12 (fun c15 => ?_) (fun c15 => ?_)
            · replace h := h.1 c15
              refine v_iconst cx d_M_spare_104 ?_
              refine v_istore (lv' := [(0, .ref (ad 41)), (1, .int (zI from_)), (2, .int (zI to_)), (3, .int (zI what)), (4, .int (zI x12)), (5, .int (zI (-1)))]) cx d_M_spare_105 (by decide) rfl rfl ?_
              refine v_iconst cx d_M_spare_107 ?_
              refine v_istore (lv' := [(0, .ref (ad 41)), (1, .int (zI from_)), (2, .int (zI to_)), (3, .int (zI what)), (4, .int (zI x12)), (5, .int (zI (-1))), (6, .int (zI (-1)))]) cx d_M_spare_108 (by decide) rfl rfl ?_
              refine v_iconst cx d_M_spare_110 ?_
              refine v_istore (lv' := [(0, .ref (ad 41)), (1, .int (zI from_)), (2, .int (zI to_)), (3, .int (zI what)), (4, .int (zI x12)), (5, .int (zI (-1))), (6, .int (zI (-1))), (7, .int (zI 0))]) cx d_M_spare_111 (by decide) rfl rfl ?_
              obtain ⟨I113, μ113, h0, h⟩ := h
              have L113 : ∀ (N113 : Nat) (y16 y17 y18 : Int) (σ19 : zS), μ113 y16 y17 y18 σ19 < N113 → I113 y16 y17 y18 σ19 → zR y16 → zR y17 → zR y18 → zV Ω Γ rm_M_spare 9 Q 0 0 zLy ad σ19 113 [(0, .ref (ad 41)), (1, .int (zI from_)), (2, .int (zI to_)), (3, .int (zI what)), (4, .int (zI x12)), (5, .int (zI y16)), (6, .int (zI y17)), (7, .int (zI y18))] [] := by
                intro N113
                induction N113 with
                | zero => intro y16 y17 y18 σ19 hm; exact absurd hm (Nat.not_lt_zero _)
                | succ N113 ih113 =>
                  intro y16 y17 y18 σ19 hmm113 hI hy16 hy17 hy18
                  replace h := h y16 y17 y18 σ19 hI hy16 hy17 hy18
                  refine v_iload cx 7 d_M_spare_113 rfl ?_
                  refine v_iload cx 4 d_M_spare_115 rfl ?_
                  refine v_iconst cx d_M_spare_117 ?_
                  refine v_isub cx d_M_spare_118 ?_
                  obtain ⟨hr20, h⟩ := h
                  refine v_icmp_ge cx 182 d_M_spare_119 (by decide) hy18 hr20 (fun c21 => ?_) (fun c21 => ?_)
                  · replace h := h.1 c21
                    refine v_aload_n cx 0 d_M_spare_182 rfl rfl ?_
                    refine v_iconst cx d_M_spare_183 ?_
                    refine pf_M_69 cx ⟨by decide, by decide⟩ d_M_spare_184 ?_
                    refine v_ns (fun σ22 eσ22 => ?_)
                    replace h := h σ22 eσ22
                    refine v_aload_n cx 0 d_M_spare_187 rfl rfl ?_
                    refine v_iconst cx d_M_spare_188 ?_
                    refine pf_M_72 cx ⟨by decide, by decide⟩ d_M_spare_189 ?_
                    refine v_ns (fun σ23 eσ23 => ?_)
                    replace h := h σ23 eσ23
                    refine v_iload_n cx 3 d_M_spare_192 rfl rfl ?_
                    refine v_if_ne cx 199 d_M_spare_193 (by decide) hwhat (fun c24 => ?_) (fun c24 => ?_)
                    · replace h := h.1 c24
                      refine v_iload cx 6 d_M_spare_199 rfl ?_
                      refine v_ldc cx ct_M_155 d_M_spare_201 ?_
                      refine v_icmp_ne cx 210 d_M_spare_203 (by decide) hy17 ⟨by decide, by decide⟩ (fun c25 => ?_) (fun c25 => ?_)
                      · replace h := h.1 c25
                        refine v_iload cx 6 d_M_spare_210 rfl ?_
                        exact rt _ _ _ _ _ _ (Nat.le_of_ble_eq_true rfl) (Nat.le_of_ble_eq_true rfl) d_M_spare_212 hy17 h
                      · replace h := h.2 c25
                        refine v_iconst cx d_M_spare_206 ?_
                        refine v_goto cx 212 d_M_spare_207 (by decide) ?_
                        exact rt _ _ _ _ _ _ (Nat.le_of_ble_eq_true rfl) (Nat.le_of_ble_eq_true rfl) d_M_spare_212 ⟨by decide, by decide⟩ h
                    · replace h := h.2 c24
                      refine v_iload cx 5 d_M_spare_196 rfl ?_
                      exact rt _ _ _ _ _ _ (Nat.le_of_ble_eq_true rfl) (Nat.le_of_ble_eq_true rfl) d_M_spare_198 hy16 h
                  · replace h := h.2 c21
                    refine v_aload_n cx 0 d_M_spare_122 rfl rfl ?_
                    refine v_aload_n cx 0 d_M_spare_123 rfl rfl ?_
                    refine gf_M_75 cx d_M_spare_124 ?_
                    refine v_iload cx 7 d_M_spare_127 rfl ?_
                    obtain ⟨hb26, h⟩ := h
                    refine v_iald cx zl_60 (by decide) hb26.1 hb26.2 d_M_spare_129 (fun hl27 => ?_)
                    refine pf_M_69 cx hl27 d_M_spare_130 ?_
                    refine v_ns (fun σ28 eσ28 => ?_)
                    replace h := h σ28 eσ28
                    refine v_aload_n cx 0 d_M_spare_133 rfl rfl ?_
                    refine v_aload_n cx 0 d_M_spare_134 rfl rfl ?_
                    refine gf_M_75 cx d_M_spare_135 ?_
                    refine v_iload cx 7 d_M_spare_138 rfl ?_
                    refine v_iconst cx d_M_spare_140 ?_
                    refine v_iadd cx d_M_spare_141 ?_
                    obtain ⟨hb29, h⟩ := h
                    refine v_iald cx zl_60 (by decide) hb29.1 hb29.2 d_M_spare_142 (fun hl30 => ?_)
                    refine pf_M_72 cx hl30 d_M_spare_143 ?_
                    refine v_ns (fun σ31 eσ31 => ?_)
                    replace h := h σ31 eσ31
                    refine v_aload_n cx 0 d_M_spare_146 rfl rfl ?_
                    refine v_iload_n cx 1 d_M_spare_147 rfl rfl ?_
                    refine v_callVv0 (st := []) cx (s_M_goesFrom hfrom_ h) yk_M_goesFrom lk_M_187 zl_41 rfl rfl rfl (Nat.le_of_ble_eq_true rfl) ⟨Nat.le_of_ble_eq_true rfl, Nat.le_of_ble_eq_true rfl⟩ ⟨rfl, rfl⟩ ⟨(Nat.le_of_ble_eq_true rfl), (Nat.le_of_ble_eq_true rfl)⟩ d_M_spare_148 (fun σ32 h => ?_)
                    refine v_aload_n cx 0 d_M_spare_151 rfl rfl ?_
                    refine v_iload_n cx 2 d_M_spare_152 rfl rfl ?_
                    refine v_callVi0 (st := []) cx (s_M_costAt hto_ h) yk_M_costAt lk_M_191 zl_41 rfl rfl rfl (Nat.le_of_ble_eq_true rfl) ⟨Nat.le_of_ble_eq_true rfl, Nat.le_of_ble_eq_true rfl⟩ ⟨rfl, rfl⟩ ⟨(Nat.le_of_ble_eq_true rfl), (Nat.le_of_ble_eq_true rfl)⟩ d_M_spare_153 (fun r34 σ33 hr34 h => ?_)
                    refine v_istore (lv' := [(0, .ref (ad 41)), (1, .int (zI from_)), (2, .int (zI to_)), (3, .int (zI what)), (4, .int (zI x12)), (5, .int (zI y16)), (6, .int (zI y17)), (7, .int (zI y18)), (8, .int (zI r34))]) cx d_M_spare_156 (by decide) rfl rfl ?_
                    refine v_iload cx 8 d_M_spare_158 rfl ?_
                    refine v_iload cx 6 d_M_spare_160 rfl ?_
                    refine v_icmp_gt cx 168 d_M_spare_162 (by decide) hr34 hy17 (fun c35 => ?_) (fun c35 => ?_)
                    · replace h := h.1 c35
                      refine v_iload cx 7 d_M_spare_168 rfl ?_
                      refine v_istore (lv' := [(0, .ref (ad 41)), (1, .int (zI from_)), (2, .int (zI to_)), (3, .int (zI what)), (4, .int (zI x12)), (5, .int (zI y18)), (6, .int (zI y17)), (7, .int (zI y18)), (8, .int (zI r34))]) cx d_M_spare_170 (by decide) rfl rfl ?_
                      refine v_iload cx 8 d_M_spare_172 rfl ?_
                      refine v_istore (lv' := [(0, .ref (ad 41)), (1, .int (zI from_)), (2, .int (zI to_)), (3, .int (zI what)), (4, .int (zI x12)), (5, .int (zI y18)), (6, .int (zI r34)), (7, .int (zI y18)), (8, .int (zI r34))]) cx d_M_spare_174 (by decide) rfl rfl ?_
                      refine v_iinc (lv' := [(0, .ref (ad 41)), (1, .int (zI from_)), (2, .int (zI to_)), (3, .int (zI what)), (4, .int (zI x12)), (5, .int (zI y18)), (6, .int (zI r34)), (7, .int (zI (y18 + 1))), (8, .int (zI r34))]) cx 7 d_M_spare_176 rfl (by decide) rfl rfl ?_
                      refine v_goto cx 113 d_M_spare_179 (by decide) ?_
                      refine v_sb (lv' := [(0, .ref (ad 41)), (1, .int (zI from_)), (2, .int (zI to_)), (3, .int (zI what)), (4, .int (zI x12)), (5, .int (zI y18)), (6, .int (zI r34)), (7, .int (zI (y18 + 1)))]) [0, 1, 2, 3, 4, 5, 6, 7] rfl ?_
                      obtain ⟨hI2, hz37, hm2⟩ := h
                      exact ih113 _ _ _ _ (Nat.lt_of_lt_of_le hm2 (Nat.le_of_lt_succ hmm113)) hI2 hy18 hr34 hz37
                    · replace h := h.2 c35
                      refine v_goto cx 176 d_M_spare_165 (by decide) ?_
                      refine v_iinc (lv' := [(0, .ref (ad 41)), (1, .int (zI from_)), (2, .int (zI to_)), (3, .int (zI what)), (4, .int (zI x12)), (5, .int (zI y16)), (6, .int (zI y17)), (7, .int (zI (y18 + 1))), (8, .int (zI r34))]) cx 7 d_M_spare_176 rfl (by decide) rfl rfl ?_
                      refine v_goto cx 113 d_M_spare_179 (by decide) ?_
                      refine v_sb (lv' := [(0, .ref (ad 41)), (1, .int (zI from_)), (2, .int (zI to_)), (3, .int (zI what)), (4, .int (zI x12)), (5, .int (zI y16)), (6, .int (zI y17)), (7, .int (zI (y18 + 1)))]) [0, 1, 2, 3, 4, 5, 6, 7] rfl ?_
                      obtain ⟨hI2, hz39, hm2⟩ := h
                      exact ih113 _ _ _ _ (Nat.lt_of_lt_of_le hm2 (Nat.le_of_lt_succ hmm113)) hI2 hy16 hy17 hz39
              exact L113 _ _ _ _ _ (Nat.lt_succ_self _) h0 ⟨by decide, by decide⟩ ⟨by decide, by decide⟩ ⟨by decide, by decide⟩
            · replace h := h.2 c15
              refine v_aload_n cx 0 d_M_spare_84 rfl rfl ?_
              refine gf_M_75 cx d_M_spare_85 ?_
              refine v_iload cx 5 d_M_spare_88 rfl ?_
              refine v_aload_n cx 0 d_M_spare_90 rfl rfl ?_
              refine gf_M_50 cx d_M_spare_91 ?_
              refine v_iload cx 5 d_M_spare_94 rfl ?_
              obtain ⟨hb40, h⟩ := h
              refine v_iald cx zl_54 (by decide) hb40.1 hb40.2 d_M_spare_96 (fun hl41 => ?_)
              refine v_iast cx zl_60 (by decide) hb40.1 hb40.2 hl41 d_M_spare_97 ?_
              refine v_ns (fun σ42 eσ42 => ?_)
              replace h := h σ42 eσ42
              refine v_iinc (lv' := [(0, .ref (ad 41)), (1, .int (zI from_)), (2, .int (zI to_)), (3, .int (zI what)), (4, .int (zI x12)), (5, .int (zI (y13 + 1)))]) cx 5 d_M_spare_98 rfl (by decide) rfl rfl ?_
              refine v_goto cx 77 d_M_spare_101 (by decide) ?_
              obtain ⟨hI2, hz44, hm2⟩ := h
              exact ih77 _ _ (Nat.lt_of_lt_of_le hm2 (Nat.le_of_lt_succ hmm77)) hI2 hz44
        exact L77 _ _ _ (Nat.lt_succ_self _) h0 ⟨by decide, by decide⟩
      · replace h := h.2 c10
        refine v_iconst cx d_M_spare_66 ?_
        exact rt _ _ _ _ _ _ (Nat.le_of_ble_eq_true rfl) (Nat.le_of_ble_eq_true rfl) d_M_spare_67 ⟨by decide, by decide⟩ h
    · replace h := h.2 c7
      refine v_iconst cx d_M_spare_54 ?_
      exact rt _ _ _ _ _ _ (Nat.le_of_ble_eq_true rfl) (Nat.le_of_ble_eq_true rfl) d_M_spare_55 ⟨by decide, by decide⟩ h
  obtain ⟨J17, hJ17, h⟩ := h
  have G17 : ∀ (σ45 : zS), J17 σ45 → zV Ω Γ rm_M_spare 9 Q 0 0 zLy ad σ45 17 [(0, .ref (ad 41)), (1, .int (zI from_)), (2, .int (zI to_)), (3, .int (zI what))] [.ref (ad 41)] := by
    intro σ45 hJ 
    replace h := hJ17 σ45 hJ 
    refine v_iconst cx d_M_spare_17 ?_
    refine v_goto cx 44 d_M_spare_18 (by decide) ?_
    have hJ2 := h
    exact G44 _ _ hJ2 ⟨by decide, by decide⟩
  refine v_if_eq cx 17 d_M_spare_6 (by decide) (zR_b hr2) (fun c46 => ?_) (fun c46 => ?_)
  · replace h := h.1 c46
    have hJ2 := h
    exact G17 _ hJ2 
  · replace h := h.2 c46
    refine v_aload_n cx 0 d_M_spare_9 rfl rfl ?_
    refine v_iload_n cx 2 d_M_spare_10 rfl rfl ?_
    refine v_callVz0 (st := [.ref (ad 41)]) cx (s_M_isPlace hto_ h) yk_M_isPlace lk_M_203 zl_41 rfl rfl rfl (Nat.le_of_ble_eq_true rfl) ⟨Nat.le_of_ble_eq_true rfl, Nat.le_of_ble_eq_true rfl⟩ ⟨rfl, rfl⟩ ⟨(Nat.le_of_ble_eq_true rfl), (Nat.le_of_ble_eq_true rfl)⟩ d_M_spare_11 (fun r48 σ47 hr48 h => ?_)
    refine v_if_ne cx 21 d_M_spare_14 (by decide) (zR_b hr48) (fun c49 => ?_) (fun c49 => ?_)
    · replace h := h.1 c49
      refine v_iload_n cx 3 d_M_spare_21 rfl rfl ?_
      refine v_iconst cx d_M_spare_22 ?_
      refine v_iconst cx d_M_spare_23 ?_
      refine v_callSz0 (st := [.ref (ad 41)]) cx (s_M_isIn hwhat ⟨by decide, by decide⟩ ⟨by decide, by decide⟩ h) yk_M_isIn lk_M_94 rfl rfl (Nat.le_of_ble_eq_true rfl) ⟨Nat.le_of_ble_eq_true rfl, Nat.le_of_ble_eq_true rfl⟩ ⟨rfl, rfl⟩ ⟨(Nat.le_of_ble_eq_true rfl), (Nat.le_of_ble_eq_true rfl)⟩ d_M_spare_24 (fun r51 σ50 hr51 h => ?_)
      refine v_if_ne cx 34 d_M_spare_27 (by decide) (zR_b hr51) (fun c52 => ?_) (fun c52 => ?_)
      · replace h := h.1 c52
        refine v_iload_n cx 1 d_M_spare_34 rfl rfl ?_
        refine v_iload_n cx 2 d_M_spare_35 rfl rfl ?_
        refine v_icmp_ne cx 43 d_M_spare_36 (by decide) hfrom_ hto_ (fun c53 => ?_) (fun c53 => ?_)
        · replace h := h.1 c53
          refine v_iconst cx d_M_spare_43 ?_
          have hJ2 := h
          exact G44 _ _ hJ2 ⟨by decide, by decide⟩
        · replace h := h.2 c53
          refine v_iconst cx d_M_spare_39 ?_
          refine v_goto cx 44 d_M_spare_40 (by decide) ?_
          have hJ2 := h
          exact G44 _ _ hJ2 ⟨by decide, by decide⟩
      · replace h := h.2 c52
        refine v_iconst cx d_M_spare_30 ?_
        refine v_goto cx 44 d_M_spare_31 (by decide) ?_
        have hJ2 := h
        exact G44 _ _ hJ2 ⟨by decide, by decide⟩
    · replace h := h.2 c49
      have hJ2 := h
      exact G17 _ hJ2 
def q_M_stagesFrom : Nat → Int → Int → Int → (Int → zS → Prop) → zS → Prop
  | 0, _, _, _, _, _ => False
  | d + 1, r, k_, left, K, σ =>
  q_M_many r (fun r2 σ1 =>
    ∀ x3 : Int, x3 = r2 - 1 → (left ≠ 0 →
      ∀ x5 : Int, x5 = (7 * k_) + left → (0 ≤ x5 ∧ x5 < 280) ∧ (((σ1 61 x5) = (-1) →
          ∃ (I63 : Int → Int → Int → zS → Prop) (μ63 : Int → Int → Int → zS → Nat), (I63 1000000000 0 k_ σ1) ∧ ∀ (y9 y10 y11 : Int) (σ12 : zS), I63 y9 y10 y11 σ12 → zR y9 → zR y10 → zR y11 → 
          zR x3 ∧ ((x3 ≤ y11 →
              ∀ σ15 : zS, σ15 = zU σ12 61 x5 y9 → K y9 σ15) ∧ (y11 < x3 →
              q_M_stepHeading r y11 (fun r17 σ16 =>
                q_M_longOf r17 (fun r19 σ18 =>
                  ∀ x20 : Int, x20 = y10 + r19 → zR (y11 + 1) ∧ (zR (left - 1) ∧ (q_M_stagesFrom d r (y11 + 1) (left - 1) (fun r24 σ23 =>
                        zR x20 ∧ ((r24 ≤ x20 →
                            q_M_lesser y9 x20 (fun r28 σ27 =>
                              I63 r28 x20 (y11 + 1) σ27 ∧ μ63 r28 x20 (y11 + 1) σ27 < μ63 y9 y10 y11 σ12) σ23) ∧ (x20 < r24 →
                            q_M_lesser y9 r24 (fun r31 σ30 =>
                              I63 r31 x20 (y11 + 1) σ30 ∧ μ63 r31 x20 (y11 + 1) σ30 < μ63 y9 y10 y11 σ12) σ23))) σ18))) σ16) σ12))) ∧ ((σ1 61 x5) ≠ (-1) →
          K (σ1 61 x5) σ1))) ∧ (left = 0 →
      zR x3 ∧ ((k_ ≠ x3 →
          K 1000000000 σ1) ∧ (k_ = x3 →
          K 0 σ1)))) σ
abbrev rm_M_stagesFrom (d : Nat) : Room := { frames := d + 3, cells := 0, slots := 0, locals := 65 + 29 * d }
set_option maxRecDepth 20000 in
set_option maxHeartbeats 4000000 in
theorem s_M_stagesFrom {Ω : zO} {ad : Nat → Nat} : ∀ (d : Nat) {r : Int} {k_ : Int} {left : Int} {K : Int → zS → Prop} {σ : zS}, zR r → zR k_ → zR left → q_M_stagesFrom d r k_ left K σ → zMi Ω y_M_stagesFrom (.code y_M_stagesFrom c_M_stagesFrom 10 (some .int)) (rm_M_stagesFrom d) zLy ad [.ref (ad 41), .int (zI r), .int (zI k_), .int (zI left)] σ K := by
  intro d
  induction d with
  | zero => intro r k_ left K σ hr hk_ hleft h; rw [q_M_stagesFrom] at h; exact h.elim
  | succ d ih =>
    intro r k_ left K σ hr hk_ hleft h
    rw [q_M_stagesFrom] at h
    refine z_ofi (lv := [(0, .ref (ad 41)), (1, .int (zI r)), (2, .int (zI k_)), (3, .int (zI left))]) (by decide) rfl (Nat.le_of_ble_eq_true rfl) ?_
    intro Γ Q cx rt
    refine v_aload_n cx 0 d_M_stagesFrom_0 rfl rfl ?_
    refine v_iload_n cx 1 d_M_stagesFrom_1 rfl rfl ?_
    refine v_callVi0 (st := []) cx (s_M_many hr h) yk_M_many lk_M_129 zl_41 rfl rfl rfl (Nat.le_of_ble_eq_true rfl) ⟨by dsimp only [rm_M_stagesFrom, rm_M_many]; omega, by dsimp only [rm_M_stagesFrom, rm_M_many]; omega⟩ ⟨rfl, rfl⟩ ⟨(Nat.zero_le _), (Nat.zero_le _)⟩ d_M_stagesFrom_2 (fun r2 σ1 hr2 h => ?_)
    refine v_iconst cx d_M_stagesFrom_5 ?_
    refine v_isub cx d_M_stagesFrom_6 ?_
    refine v_nm (fun x3 ex3 => ?_)
    replace h := h x3 ex3
    refine v_istore (lv' := [(0, .ref (ad 41)), (1, .int (zI r)), (2, .int (zI k_)), (3, .int (zI left)), (4, .int (zI x3))]) cx d_M_stagesFrom_7 (by decide) rfl rfl ?_
    refine v_iload_n cx 3 d_M_stagesFrom_9 rfl rfl ?_
    refine v_if_ne cx 26 d_M_stagesFrom_10 (by decide) hleft (fun c4 => ?_) (fun c4 => ?_)
    · replace h := h.1 c4
      refine v_bipush cx (by decide) d_M_stagesFrom_26 ?_
      refine v_iload_n cx 2 d_M_stagesFrom_28 rfl rfl ?_
      refine v_imul cx d_M_stagesFrom_29 ?_
      refine v_iload_n cx 3 d_M_stagesFrom_30 rfl rfl ?_
      refine v_iadd cx d_M_stagesFrom_31 ?_
      refine v_nm (fun x5 ex5 => ?_)
      replace h := h x5 ex5
      refine v_istore (lv' := [(0, .ref (ad 41)), (1, .int (zI r)), (2, .int (zI k_)), (3, .int (zI left)), (4, .int (zI x3)), (5, .int (zI x5))]) cx d_M_stagesFrom_32 (by decide) rfl rfl ?_
      refine v_aload_n cx 0 d_M_stagesFrom_34 rfl rfl ?_
      refine gf_M_78 cx d_M_stagesFrom_35 ?_
      refine v_iload cx 5 d_M_stagesFrom_38 rfl ?_
      obtain ⟨hb6, h⟩ := h
      refine v_iald cx zl_61 (by decide) hb6.1 hb6.2 d_M_stagesFrom_40 (fun hl7 => ?_)
      refine v_iconst cx d_M_stagesFrom_41 ?_
      refine v_icmp_eq cx 53 d_M_stagesFrom_42 (by decide) hl7 ⟨by decide, by decide⟩ (fun c8 => ?_) (fun c8 => ?_)
      · replace h := h.1 c8
        refine v_ldc cx ct_M_155 d_M_stagesFrom_53 ?_
        refine v_istore (lv' := [(0, .ref (ad 41)), (1, .int (zI r)), (2, .int (zI k_)), (3, .int (zI left)), (4, .int (zI x3)), (5, .int (zI x5)), (6, .int (zI 1000000000))]) cx d_M_stagesFrom_55 (by decide) rfl rfl ?_
        refine v_iconst cx d_M_stagesFrom_57 ?_
        refine v_istore (lv' := [(0, .ref (ad 41)), (1, .int (zI r)), (2, .int (zI k_)), (3, .int (zI left)), (4, .int (zI x3)), (5, .int (zI x5)), (6, .int (zI 1000000000)), (7, .int (zI 0))]) cx d_M_stagesFrom_58 (by decide) rfl rfl ?_
        refine v_iload_n cx 2 d_M_stagesFrom_60 rfl rfl ?_
        refine v_istore (lv' := [(0, .ref (ad 41)), (1, .int (zI r)), (2, .int (zI k_)), (3, .int (zI left)), (4, .int (zI x3)), (5, .int (zI x5)), (6, .int (zI 1000000000)), (7, .int (zI 0)), (8, .int (zI k_))]) cx d_M_stagesFrom_61 (by decide) rfl rfl ?_
        refine v_sb (lv' := [(0, .ref (ad 41)), (1, .int (zI r)), (3, .int (zI left)), (4, .int (zI x3)), (5, .int (zI x5)), (6, .int (zI 1000000000)), (7, .int (zI 0)), (8, .int (zI k_))]) [0, 1, 3, 4, 5, 6, 7, 8] rfl ?_
        obtain ⟨I63, μ63, h0, h⟩ := h
        have L63 : ∀ (N63 : Nat) (y9 y10 y11 : Int) (σ12 : zS), μ63 y9 y10 y11 σ12 < N63 → I63 y9 y10 y11 σ12 → zR y9 → zR y10 → zR y11 → zV Ω Γ (rm_M_stagesFrom (d + 1)) 10 Q 0 0 zLy ad σ12 63 [(0, .ref (ad 41)), (1, .int (zI r)), (3, .int (zI left)), (4, .int (zI x3)), (5, .int (zI x5)), (6, .int (zI y9)), (7, .int (zI y10)), (8, .int (zI y11))] [] := by
          intro N63
          induction N63 with
          | zero => intro y9 y10 y11 σ12 hm; exact absurd hm (Nat.not_lt_zero _)
          | succ N63 ih63 =>
            intro y9 y10 y11 σ12 hmm63 hI hy9 hy10 hy11
            replace h := h y9 y10 y11 σ12 hI hy9 hy10 hy11
            refine v_iload cx 7 d_M_stagesFrom_63 rfl ?_
            refine v_iload cx 3 d_M_stagesFrom_65 rfl ?_
            obtain ⟨hr13, h⟩ := h
            refine v_icmp_ge cx 126 d_M_stagesFrom_67 (by decide) hy11 hr13 (fun c14 => ?_) (fun c14 => ?_)
            · replace h := h.1 c14
              refine v_aload_n cx 0 d_M_stagesFrom_126 rfl rfl ?_
              refine gf_M_78 cx d_M_stagesFrom_127 ?_
              refine v_iload cx 4 d_M_stagesFrom_130 rfl ?_
              refine v_iload cx 5 d_M_stagesFrom_132 rfl ?_
              refine v_iast cx zl_61 (by decide) hb6.1 hb6.2 hy9 d_M_stagesFrom_134 ?_
              refine v_ns (fun σ15 eσ15 => ?_)
              replace h := h σ15 eσ15
              refine v_iload cx 5 d_M_stagesFrom_135 rfl ?_
              exact rt _ _ _ _ _ _ (Nat.zero_le _) (Nat.zero_le _) d_M_stagesFrom_137 hy9 h
            · replace h := h.2 c14
              refine v_iload cx 6 d_M_stagesFrom_70 rfl ?_
              refine v_aload_n cx 0 d_M_stagesFrom_72 rfl rfl ?_
              refine v_iload_n cx 1 d_M_stagesFrom_73 rfl rfl ?_
              refine v_iload cx 7 d_M_stagesFrom_74 rfl ?_
              refine v_callVi0 (st := [.int (zI y10)]) cx (s_M_stepHeading hr hy11 h) yk_M_stepHeading lk_M_308 zl_41 rfl rfl rfl (Nat.le_of_ble_eq_true rfl) ⟨by dsimp only [rm_M_stagesFrom, rm_M_stepHeading]; omega, by dsimp only [rm_M_stagesFrom, rm_M_stepHeading]; omega⟩ ⟨rfl, rfl⟩ ⟨(Nat.zero_le _), (Nat.zero_le _)⟩ d_M_stagesFrom_76 (fun r17 σ16 hr17 h => ?_)
              refine v_callSi0 (st := [.int (zI y10)]) cx (s_M_longOf hr17 h) yk_M_longOf lk_M_108 rfl rfl (Nat.le_of_ble_eq_true rfl) ⟨by dsimp only [rm_M_stagesFrom, rm_M_longOf]; omega, by dsimp only [rm_M_stagesFrom, rm_M_longOf]; omega⟩ ⟨rfl, rfl⟩ ⟨(Nat.zero_le _), (Nat.zero_le _)⟩ d_M_stagesFrom_79 (fun r19 σ18 hr19 h => ?_)
              refine v_iadd cx d_M_stagesFrom_82 ?_
              refine v_nm (fun x20 ex20 => ?_)
              replace h := h x20 ex20
              refine v_istore (lv' := [(0, .ref (ad 41)), (1, .int (zI r)), (3, .int (zI left)), (4, .int (zI x3)), (5, .int (zI x5)), (6, .int (zI y9)), (7, .int (zI x20)), (8, .int (zI y11))]) cx d_M_stagesFrom_83 (by decide) rfl rfl ?_
              refine v_aload_n cx 0 d_M_stagesFrom_85 rfl rfl ?_
              refine v_iload_n cx 1 d_M_stagesFrom_86 rfl rfl ?_
              refine v_iload cx 7 d_M_stagesFrom_87 rfl ?_
              refine v_iconst cx d_M_stagesFrom_89 ?_
              refine v_iadd cx d_M_stagesFrom_90 ?_
              refine v_iload_n cx 2 d_M_stagesFrom_91 rfl rfl ?_
              refine v_iconst cx d_M_stagesFrom_92 ?_
              refine v_isub cx d_M_stagesFrom_93 ?_
              obtain ⟨hr21, h⟩ := h
              obtain ⟨hr22, h⟩ := h
              refine v_callVi0 (st := []) cx (ih hr hr21 hr22 h) yk_M_stagesFrom lk_M_399 zl_41 rfl rfl rfl (Nat.le_of_ble_eq_true rfl) ⟨by dsimp only [rm_M_stagesFrom, rm_M_stagesFrom]; omega, by dsimp only [rm_M_stagesFrom, rm_M_stagesFrom]; omega⟩ ⟨rfl, rfl⟩ ⟨(Nat.zero_le _), (Nat.zero_le _)⟩ d_M_stagesFrom_94 (fun r24 σ23 hr24 h => ?_)
              refine v_istore (lv' := [(0, .ref (ad 41)), (1, .int (zI r)), (3, .int (zI left)), (4, .int (zI x3)), (5, .int (zI x5)), (6, .int (zI y9)), (7, .int (zI x20)), (8, .int (zI y11)), (9, .int (zI r24))]) cx d_M_stagesFrom_97 (by decide) rfl rfl ?_
              refine v_iload cx 5 d_M_stagesFrom_99 rfl ?_
              refine v_iload cx 8 d_M_stagesFrom_101 rfl ?_
              refine v_iload cx 6 d_M_stagesFrom_103 rfl ?_
              obtain ⟨hr25, h⟩ := h
              refine v_icmp_le cx 113 d_M_stagesFrom_105 (by decide) hr24 hr25 (fun c26 => ?_) (fun c26 => ?_)
              · replace h := h.1 c26
                refine v_iload cx 6 d_M_stagesFrom_113 rfl ?_
                refine v_callSi0 (st := []) cx (s_M_lesser hy9 hr25 h) yk_M_lesser lk_M_184 rfl rfl (Nat.le_of_ble_eq_true rfl) ⟨by dsimp only [rm_M_stagesFrom, rm_M_lesser]; omega, by dsimp only [rm_M_stagesFrom, rm_M_lesser]; omega⟩ ⟨rfl, rfl⟩ ⟨(Nat.zero_le _), (Nat.zero_le _)⟩ d_M_stagesFrom_115 (fun r28 σ27 hr28 h => ?_)
                refine v_istore (lv' := [(0, .ref (ad 41)), (1, .int (zI r)), (3, .int (zI left)), (4, .int (zI x3)), (5, .int (zI x5)), (6, .int (zI r28)), (7, .int (zI x20)), (8, .int (zI y11)), (9, .int (zI r24))]) cx d_M_stagesFrom_118 (by decide) rfl rfl ?_
                refine v_iinc (lv' := [(0, .ref (ad 41)), (1, .int (zI r)), (3, .int (zI left)), (4, .int (zI x3)), (5, .int (zI x5)), (6, .int (zI r28)), (7, .int (zI x20)), (8, .int (zI (y11 + 1))), (9, .int (zI r24))]) cx 7 d_M_stagesFrom_120 rfl (by decide) rfl rfl ?_
                refine v_goto cx 63 d_M_stagesFrom_123 (by decide) ?_
                refine v_sb (lv' := [(0, .ref (ad 41)), (1, .int (zI r)), (3, .int (zI left)), (4, .int (zI x3)), (5, .int (zI x5)), (6, .int (zI r28)), (7, .int (zI x20)), (8, .int (zI (y11 + 1)))]) [0, 1, 2, 3, 4, 5, 6, 7] rfl ?_
                obtain ⟨hI2, hm2⟩ := h
                exact ih63 _ _ _ _ (Nat.lt_of_lt_of_le hm2 (Nat.le_of_lt_succ hmm63)) hI2 hr28 hr25 hr21
              · replace h := h.2 c26
                refine v_iload cx 8 d_M_stagesFrom_108 rfl ?_
                refine v_goto cx 115 d_M_stagesFrom_110 (by decide) ?_
                refine v_callSi0 (st := []) cx (s_M_lesser hy9 hr24 h) yk_M_lesser lk_M_184 rfl rfl (Nat.le_of_ble_eq_true rfl) ⟨by dsimp only [rm_M_stagesFrom, rm_M_lesser]; omega, by dsimp only [rm_M_stagesFrom, rm_M_lesser]; omega⟩ ⟨rfl, rfl⟩ ⟨(Nat.zero_le _), (Nat.zero_le _)⟩ d_M_stagesFrom_115 (fun r31 σ30 hr31 h => ?_)
                refine v_istore (lv' := [(0, .ref (ad 41)), (1, .int (zI r)), (3, .int (zI left)), (4, .int (zI x3)), (5, .int (zI x5)), (6, .int (zI r31)), (7, .int (zI x20)), (8, .int (zI y11)), (9, .int (zI r24))]) cx d_M_stagesFrom_118 (by decide) rfl rfl ?_
                refine v_iinc (lv' := [(0, .ref (ad 41)), (1, .int (zI r)), (3, .int (zI left)), (4, .int (zI x3)), (5, .int (zI x5)), (6, .int (zI r31)), (7, .int (zI x20)), (8, .int (zI (y11 + 1))), (9, .int (zI r24))]) cx 7 d_M_stagesFrom_120 rfl (by decide) rfl rfl ?_
                refine v_goto cx 63 d_M_stagesFrom_123 (by decide) ?_
                refine v_sb (lv' := [(0, .ref (ad 41)), (1, .int (zI r)), (3, .int (zI left)), (4, .int (zI x3)), (5, .int (zI x5)), (6, .int (zI r31)), (7, .int (zI x20)), (8, .int (zI (y11 + 1)))]) [0, 1, 2, 3, 4, 5, 6, 7] rfl ?_
                obtain ⟨hI2, hm2⟩ := h
                exact ih63 _ _ _ _ (Nat.lt_of_lt_of_le hm2 (Nat.le_of_lt_succ hmm63)) hI2 hr31 hr25 hr21
        exact L63 _ _ _ _ _ (Nat.lt_succ_self _) h0 ⟨by decide, by decide⟩ ⟨by decide, by decide⟩ hk_
      · replace h := h.2 c8
        refine v_aload_n cx 0 d_M_stagesFrom_45 rfl rfl ?_
        refine gf_M_78 cx d_M_stagesFrom_46 ?_
        refine v_iload cx 5 d_M_stagesFrom_49 rfl ?_
        refine v_iald cx zl_61 (by decide) hb6.1 hb6.2 d_M_stagesFrom_51 (fun hl33 => ?_)
        exact rt _ _ _ _ _ _ (Nat.zero_le _) (Nat.zero_le _) d_M_stagesFrom_52 hl33 h
    · replace h := h.2 c4
      refine v_iload_n cx 2 d_M_stagesFrom_13 rfl rfl ?_
      refine v_iload cx 4 d_M_stagesFrom_14 rfl ?_
      obtain ⟨hr34, h⟩ := h
      refine v_icmp_ne cx 23 d_M_stagesFrom_16 (by decide) hk_ hr34 (fun c35 => ?_) (fun c35 => ?_)
      · replace h := h.1 c35
        refine v_ldc cx ct_M_155 d_M_stagesFrom_23 ?_
        exact rt _ _ _ _ _ _ (Nat.zero_le _) (Nat.zero_le _) d_M_stagesFrom_25 ⟨by decide, by decide⟩ h
      · replace h := h.2 c35
        refine v_iconst cx d_M_stagesFrom_19 ?_
        refine v_goto cx 25 d_M_stagesFrom_20 (by decide) ?_
        exact rt _ _ _ _ _ _ (Nat.zero_le _) (Nat.zero_le _) d_M_stagesFrom_25 ⟨by decide, by decide⟩ h
def q_M_stages (road : Int) (n_ : Int) (K : Int → zS → Prop) (σ : zS) : Prop :=
  q_M_isRoad road (fun r2 σ1 =>
    ∃ J39 : Int → zS → Prop, (∀ (w3 : Int) (σ4 : zS), J39 w3 σ4 → zR w3 → 
      ∀ σ5 : zS, σ5 = zU σ4 41 0 w3 → ((σ5 41 0) ≤ 0 →
        ∃ (I53 : Int → zS → Prop) (μ53 : Int → zS → Nat), (I53 0 σ5) ∧ ∀ (y8 : Int) (σ9 : zS), I53 y8 σ9 → zR y8 → 
        (280 ≤ y8 →
          q_M_stagesFrom 8 road 0 n_ (fun r12 σ11 =>
            (r12 ≠ 1000000000 →
              K r12 σ11) ∧ (r12 = 1000000000 →
              K (-1) σ11)) σ9) ∧ (y8 < 280 →
          (0 ≤ y8 ∧ y8 < 280) ∧ (∀ σ15 : zS, σ15 = zU σ9 61 y8 (-1) → I53 (y8 + 1) σ15 ∧ zR (y8 + 1) ∧ μ53 (y8 + 1) σ15 < μ53 y8 σ9))) ∧ (0 < (σ5 41 0) →
        K 0 σ5)) ∧
    ((r2 ≠ 0 →
        q_M_isIn n_ 1 6 (fun r20 σ19 =>
          (r20 ≠ 0 →
            q_M_many road (fun r23 σ22 =>
              (r23 ≠ 0 →
                J39 0 σ22) ∧ (r23 = 0 →
                J39 3 σ22)) σ19) ∧ (r20 = 0 →
            J39 2 σ19)) σ1) ∧ (r2 = 0 →
        J39 1 σ1))) σ
abbrev rm_M_stages : Room := { frames := 12, cells := 0, slots := 0, locals := 326 }
set_option maxRecDepth 20000 in
set_option maxHeartbeats 4000000 in
theorem s_M_stages {Ω : zO} {ad : Nat → Nat} {road : Int} {n_ : Int} {K : Int → zS → Prop} {σ : zS} (hroad : zR road) (hn_ : zR n_) (h : q_M_stages road n_ K σ) : zMi Ω y_M_stages (.code y_M_stages c_M_stages 4 (some .int)) rm_M_stages zLy ad [.ref (ad 41), .int (zI road), .int (zI n_)] σ K := by
  refine z_ofi (lv := [(0, .ref (ad 41)), (1, .int (zI road)), (2, .int (zI n_))]) (by decide) rfl (Nat.le_of_ble_eq_true rfl) ?_
  intro Γ Q cx rt
  unfold q_M_stages at h
  refine v_aload_n cx 0 d_M_stages_0 rfl rfl ?_
  refine v_iload_n cx 1 d_M_stages_1 rfl rfl ?_
  refine v_callSz0 (st := [.ref (ad 41)]) cx (s_M_isRoad hroad h) yk_M_isRoad lk_M_209 rfl rfl (Nat.le_of_ble_eq_true rfl) ⟨Nat.le_of_ble_eq_true rfl, Nat.le_of_ble_eq_true rfl⟩ ⟨rfl, rfl⟩ ⟨(Nat.le_of_ble_eq_true rfl), (Nat.le_of_ble_eq_true rfl)⟩ d_M_stages_2 (fun r2 σ1 hr2 h => ?_)
  obtain ⟨J39, hJ39, h⟩ := h
  have G39 : ∀ (w3 : Int) (σ4 : zS), J39 w3 σ4 → zR w3 → zV Ω Γ rm_M_stages 4 Q 0 0 zLy ad σ4 39 [(0, .ref (ad 41)), (1, .int (zI road)), (2, .int (zI n_))] [.int (zI w3), .ref (ad 41)] := by
    intro w3 σ4 hJ hw3
    replace h := hJ39 w3 σ4 hJ hw3
    refine pf_M_87 cx hw3 d_M_stages_39 ?_
    refine v_ns (fun σ5 eσ5 => ?_)
    replace h := h σ5 eσ5
    refine v_aload_n cx 0 d_M_stages_42 rfl rfl ?_
    refine gf_M_87 cx d_M_stages_43 (fun hl6 => ?_)
    refine v_if_le cx 51 d_M_stages_46 (by decide) hl6 (fun c7 => ?_) (fun c7 => ?_)
    · replace h := h.1 c7
      refine v_iconst cx d_M_stages_51 ?_
      refine v_istore_n (lv' := [(0, .ref (ad 41)), (1, .int (zI road)), (2, .int (zI n_)), (3, .int (zI 0))]) cx d_M_stages_52 rfl (by decide) rfl rfl ?_
      obtain ⟨I53, μ53, h0, h⟩ := h
      have L53 : ∀ (N53 : Nat) (y8 : Int) (σ9 : zS), μ53 y8 σ9 < N53 → I53 y8 σ9 → zR y8 → zV Ω Γ rm_M_stages 4 Q 0 0 zLy ad σ9 53 [(0, .ref (ad 41)), (1, .int (zI road)), (2, .int (zI n_)), (3, .int (zI y8))] [] := by
        intro N53
        induction N53 with
        | zero => intro y8 σ9 hm; exact absurd hm (Nat.not_lt_zero _)
        | succ N53 ih53 =>
          intro y8 σ9 hmm53 hI hy8
          replace h := h y8 σ9 hI hy8
          refine v_iload_n cx 3 d_M_stages_53 rfl rfl ?_
          refine v_sipush cx (by decide) d_M_stages_54 ?_
          refine v_icmp_ge cx 73 d_M_stages_57 (by decide) hy8 ⟨by decide, by decide⟩ (fun c10 => ?_) (fun c10 => ?_)
          · replace h := h.1 c10
            refine v_aload_n cx 0 d_M_stages_73 rfl rfl ?_
            refine v_iload_n cx 1 d_M_stages_74 rfl rfl ?_
            refine v_iconst cx d_M_stages_75 ?_
            refine v_iload_n cx 2 d_M_stages_76 rfl rfl ?_
            refine v_callVi0 (st := []) cx (s_M_stagesFrom 8 hroad ⟨by decide, by decide⟩ hn_ h) yk_M_stagesFrom lk_M_399 zl_41 rfl rfl rfl (Nat.le_of_ble_eq_true rfl) ⟨Nat.le_of_ble_eq_true rfl, Nat.le_of_ble_eq_true rfl⟩ ⟨rfl, rfl⟩ ⟨(Nat.le_of_ble_eq_true rfl), (Nat.le_of_ble_eq_true rfl)⟩ d_M_stages_77 (fun r12 σ11 hr12 h => ?_)
            refine v_istore_n (lv' := [(0, .ref (ad 41)), (1, .int (zI road)), (2, .int (zI n_)), (3, .int (zI r12))]) cx d_M_stages_80 rfl (by decide) rfl rfl ?_
            refine v_iload_n cx 3 d_M_stages_81 rfl rfl ?_
            refine v_ldc cx ct_M_155 d_M_stages_82 ?_
            refine v_icmp_ne cx 89 d_M_stages_84 (by decide) hr12 ⟨by decide, by decide⟩ (fun c13 => ?_) (fun c13 => ?_)
            · replace h := h.1 c13
              refine v_iload_n cx 3 d_M_stages_89 rfl rfl ?_
              exact rt _ _ _ _ _ _ (Nat.le_of_ble_eq_true rfl) (Nat.le_of_ble_eq_true rfl) d_M_stages_90 hr12 h
            · replace h := h.2 c13
              refine v_iconst cx d_M_stages_87 ?_
              exact rt _ _ _ _ _ _ (Nat.le_of_ble_eq_true rfl) (Nat.le_of_ble_eq_true rfl) d_M_stages_88 ⟨by decide, by decide⟩ h
          · replace h := h.2 c10
            refine v_aload_n cx 0 d_M_stages_60 rfl rfl ?_
            refine gf_M_78 cx d_M_stages_61 ?_
            refine v_iload_n cx 3 d_M_stages_64 rfl rfl ?_
            refine v_iconst cx d_M_stages_65 ?_
            obtain ⟨hb14, h⟩ := h
            refine v_iast cx zl_61 (by decide) hb14.1 hb14.2 ⟨by decide, by decide⟩ d_M_stages_66 ?_
            refine v_ns (fun σ15 eσ15 => ?_)
            replace h := h σ15 eσ15
            refine v_iinc (lv' := [(0, .ref (ad 41)), (1, .int (zI road)), (2, .int (zI n_)), (3, .int (zI (y8 + 1)))]) cx 3 d_M_stages_67 rfl (by decide) rfl rfl ?_
            refine v_goto cx 53 d_M_stages_70 (by decide) ?_
            obtain ⟨hI2, hz17, hm2⟩ := h
            exact ih53 _ _ (Nat.lt_of_lt_of_le hm2 (Nat.le_of_lt_succ hmm53)) hI2 hz17
      exact L53 _ _ _ (Nat.lt_succ_self _) h0 ⟨by decide, by decide⟩
    · replace h := h.2 c7
      refine v_iconst cx d_M_stages_49 ?_
      exact rt _ _ _ _ _ _ (Nat.le_of_ble_eq_true rfl) (Nat.le_of_ble_eq_true rfl) d_M_stages_50 ⟨by decide, by decide⟩ h
  refine v_if_ne cx 12 d_M_stages_5 (by decide) (zR_b hr2) (fun c18 => ?_) (fun c18 => ?_)
  · replace h := h.1 c18
    refine v_iload_n cx 2 d_M_stages_12 rfl rfl ?_
    refine v_iconst cx d_M_stages_13 ?_
    refine v_bipush cx (by decide) d_M_stages_14 ?_
    refine v_callSz0 (st := [.ref (ad 41)]) cx (s_M_isIn hn_ ⟨by decide, by decide⟩ ⟨by decide, by decide⟩ h) yk_M_isIn lk_M_94 rfl rfl (Nat.le_of_ble_eq_true rfl) ⟨Nat.le_of_ble_eq_true rfl, Nat.le_of_ble_eq_true rfl⟩ ⟨rfl, rfl⟩ ⟨(Nat.le_of_ble_eq_true rfl), (Nat.le_of_ble_eq_true rfl)⟩ d_M_stages_16 (fun r20 σ19 hr20 h => ?_)
    refine v_if_ne cx 26 d_M_stages_19 (by decide) (zR_b hr20) (fun c21 => ?_) (fun c21 => ?_)
    · replace h := h.1 c21
      refine v_aload_n cx 0 d_M_stages_26 rfl rfl ?_
      refine v_iload_n cx 1 d_M_stages_27 rfl rfl ?_
      refine v_callVi0 (st := [.ref (ad 41)]) cx (s_M_many hroad h) yk_M_many lk_M_129 zl_41 rfl rfl rfl (Nat.le_of_ble_eq_true rfl) ⟨Nat.le_of_ble_eq_true rfl, Nat.le_of_ble_eq_true rfl⟩ ⟨rfl, rfl⟩ ⟨(Nat.le_of_ble_eq_true rfl), (Nat.le_of_ble_eq_true rfl)⟩ d_M_stages_28 (fun r23 σ22 hr23 h => ?_)
      refine v_if_ne cx 38 d_M_stages_31 (by decide) hr23 (fun c24 => ?_) (fun c24 => ?_)
      · replace h := h.1 c24
        refine v_iconst cx d_M_stages_38 ?_
        have hJ2 := h
        exact G39 _ _ hJ2 ⟨by decide, by decide⟩
      · replace h := h.2 c24
        refine v_iconst cx d_M_stages_34 ?_
        refine v_goto cx 39 d_M_stages_35 (by decide) ?_
        have hJ2 := h
        exact G39 _ _ hJ2 ⟨by decide, by decide⟩
    · replace h := h.2 c21
      refine v_iconst cx d_M_stages_22 ?_
      refine v_goto cx 39 d_M_stages_23 (by decide) ?_
      have hJ2 := h
      exact G39 _ _ hJ2 ⟨by decide, by decide⟩
  · replace h := h.2 c18
    refine v_iconst cx d_M_stages_8 ?_
    refine v_goto cx 39 d_M_stages_9 (by decide) ?_
    have hJ2 := h
    exact G39 _ _ hJ2 ⟨by decide, by decide⟩
def q_M_image (K : zS → Prop) (σ : zS) : Prop :=
  ∀ σ1 : zS, σ1 = zU σ 41 0 0 → ∃ (I7 : Int → zS → Prop) (μ7 : Int → zS → Nat), (I7 0 σ1) ∧ ∀ (y2 : Int) (σ3 : zS), I7 y2 σ3 → zR y2 → 
  (499 ≤ y2 →
    ∀ σ5 : zS, σ5 = zU σ3 41 5 1 → K σ5) ∧ (y2 < 499 →
    (0 ≤ y2 ∧ y2 < 499) ∧ (∀ σ8 : zS, σ8 = zU σ3 44 y2 (σ3 42 y2) → I7 (y2 + 1) σ8 ∧ zR (y2 + 1) ∧ μ7 (y2 + 1) σ8 < μ7 y2 σ3))
abbrev rm_M_image : Room := { frames := 0, cells := 0, slots := 0, locals := 0 }
set_option maxRecDepth 20000 in
set_option maxHeartbeats 4000000 in
theorem s_M_image {Ω : zO} {ad : Nat → Nat} {K : zS → Prop} {σ : zS}  (h : q_M_image K σ) : zMv Ω y_M_image (.code y_M_image c_M_image 2 none) rm_M_image zLy ad [.ref (ad 41)] σ K := by
  refine z_ofv (lv := [(0, .ref (ad 41))]) (by decide) rfl (Nat.le_of_ble_eq_true rfl) ?_
  intro Γ Q cx rt
  unfold q_M_image at h
  refine v_aload_n cx 0 d_M_image_0 rfl rfl ?_
  refine v_iconst cx d_M_image_1 ?_
  refine pf_M_87 cx ⟨by decide, by decide⟩ d_M_image_2 ?_
  refine v_ns (fun σ1 eσ1 => ?_)
  replace h := h σ1 eσ1
  refine v_iconst cx d_M_image_5 ?_
  refine v_istore_n (lv' := [(0, .ref (ad 41)), (1, .int (zI 0))]) cx d_M_image_6 rfl (by decide) rfl rfl ?_
  obtain ⟨I7, μ7, h0, h⟩ := h
  have L7 : ∀ (N7 : Nat) (y2 : Int) (σ3 : zS), μ7 y2 σ3 < N7 → I7 y2 σ3 → zR y2 → zV Ω Γ rm_M_image 2 Q 0 0 zLy ad σ3 7 [(0, .ref (ad 41)), (1, .int (zI y2))] [] := by
    intro N7
    induction N7 with
    | zero => intro y2 σ3 hm; exact absurd hm (Nat.not_lt_zero _)
    | succ N7 ih7 =>
      intro y2 σ3 hmm7 hI hy2
      replace h := h y2 σ3 hI hy2
      refine v_iload_n cx 1 d_M_image_7 rfl rfl ?_
      refine v_sipush cx (by decide) d_M_image_8 ?_
      refine v_icmp_ge cx 32 d_M_image_11 (by decide) hy2 ⟨by decide, by decide⟩ (fun c4 => ?_) (fun c4 => ?_)
      · replace h := h.1 c4
        refine v_aload_n cx 0 d_M_image_32 rfl rfl ?_
        refine v_iconst cx d_M_image_33 ?_
        refine pf_M_402 cx (Or.inr rfl) d_M_image_34 ?_
        refine v_ns (fun σ5 eσ5 => ?_)
        replace h := h σ5 eσ5
        exact rt _ _ _ _ _ (Nat.le_of_ble_eq_true rfl) (Nat.le_of_ble_eq_true rfl) d_M_image_37 h
      · replace h := h.2 c4
        refine v_aload_n cx 0 d_M_image_14 rfl rfl ?_
        refine gf_M_16 cx d_M_image_15 ?_
        refine v_iload_n cx 1 d_M_image_18 rfl rfl ?_
        refine v_aload_n cx 0 d_M_image_19 rfl rfl ?_
        refine gf_M_7 cx d_M_image_20 ?_
        refine v_iload_n cx 1 d_M_image_23 rfl rfl ?_
        obtain ⟨hb6, h⟩ := h
        refine v_iald cx zl_42 (by decide) hb6.1 hb6.2 d_M_image_24 (fun hl7 => ?_)
        refine v_iast cx zl_44 (by decide) hb6.1 hb6.2 hl7 d_M_image_25 ?_
        refine v_ns (fun σ8 eσ8 => ?_)
        replace h := h σ8 eσ8
        refine v_iinc (lv' := [(0, .ref (ad 41)), (1, .int (zI (y2 + 1)))]) cx 1 d_M_image_26 rfl (by decide) rfl rfl ?_
        refine v_goto cx 7 d_M_image_29 (by decide) ?_
        obtain ⟨hI2, hz10, hm2⟩ := h
        exact ih7 _ _ (Nat.lt_of_lt_of_le hm2 (Nat.le_of_lt_succ hmm7)) hI2 hz10
  exact L7 _ _ _ (Nat.lt_succ_self _) h0 ⟨by decide, by decide⟩
def q_M_back (K : Int → zS → Prop) (σ : zS) : Prop :=
  ∀ σ1 : zS, σ1 = zU σ 41 0 0 → ((σ1 41 5) ≠ 0 →
    ∃ (I16 : Int → zS → Prop) (μ16 : Int → zS → Nat), (I16 0 σ1) ∧ ∀ (y4 : Int) (σ5 : zS), I16 y4 σ5 → zR y4 → 
    (499 ≤ y4 →
      ∀ σ7 : zS, σ7 = zU σ5 41 3 0 → K 1 σ7) ∧ (y4 < 499 →
      (0 ≤ y4 ∧ y4 < 499) ∧ (∀ σ10 : zS, σ10 = zU σ5 42 y4 (σ5 44 y4) → I16 (y4 + 1) σ10 ∧ zR (y4 + 1) ∧ μ16 (y4 + 1) σ10 < μ16 y4 σ5))) ∧ ((σ1 41 5) = 0 →
    K 0 σ1)
abbrev rm_M_back : Room := { frames := 0, cells := 0, slots := 0, locals := 0 }
set_option maxRecDepth 20000 in
set_option maxHeartbeats 4000000 in
theorem s_M_back {Ω : zO} {ad : Nat → Nat} {K : Int → zS → Prop} {σ : zS}  (h : q_M_back K σ) : zMz Ω y_M_back (.code y_M_back c_M_back 2 (some .boolean)) rm_M_back zLy ad [.ref (ad 41)] σ K := by
  refine z_ofz (lv := [(0, .ref (ad 41))]) (by decide) rfl (Nat.le_of_ble_eq_true rfl) ?_
  intro Γ Q cx rt
  unfold q_M_back at h
  refine v_aload_n cx 0 d_M_back_0 rfl rfl ?_
  refine v_iconst cx d_M_back_1 ?_
  refine pf_M_87 cx ⟨by decide, by decide⟩ d_M_back_2 ?_
  refine v_ns (fun σ1 eσ1 => ?_)
  replace h := h σ1 eσ1
  refine v_aload_n cx 0 d_M_back_5 rfl rfl ?_
  refine gf_M_402 cx d_M_back_6 (fun hl2 => ?_)
  refine v_if_ne cx 14 d_M_back_9 (by decide) hl2 (fun c3 => ?_) (fun c3 => ?_)
  · replace h := h.1 c3
    refine v_iconst cx d_M_back_14 ?_
    refine v_istore_n (lv' := [(0, .ref (ad 41)), (1, .int (zI 0))]) cx d_M_back_15 rfl (by decide) rfl rfl ?_
    obtain ⟨I16, μ16, h0, h⟩ := h
    have L16 : ∀ (N16 : Nat) (y4 : Int) (σ5 : zS), μ16 y4 σ5 < N16 → I16 y4 σ5 → zR y4 → zV Ω Γ rm_M_back 2 Q 0 0 zLy ad σ5 16 [(0, .ref (ad 41)), (1, .int (zI y4))] [] := by
      intro N16
      induction N16 with
      | zero => intro y4 σ5 hm; exact absurd hm (Nat.not_lt_zero _)
      | succ N16 ih16 =>
        intro y4 σ5 hmm16 hI hy4
        replace h := h y4 σ5 hI hy4
        refine v_iload_n cx 1 d_M_back_16 rfl rfl ?_
        refine v_sipush cx (by decide) d_M_back_17 ?_
        refine v_icmp_ge cx 41 d_M_back_20 (by decide) hy4 ⟨by decide, by decide⟩ (fun c6 => ?_) (fun c6 => ?_)
        · replace h := h.1 c6
          refine v_aload_n cx 0 d_M_back_41 rfl rfl ?_
          refine v_iconst cx d_M_back_42 ?_
          refine pf_M_293 cx ⟨by decide, by decide⟩ d_M_back_43 ?_
          refine v_ns (fun σ7 eσ7 => ?_)
          replace h := h σ7 eσ7
          refine v_iconst cx d_M_back_46 ?_
          exact rt _ _ _ _ _ _ (Nat.le_of_ble_eq_true rfl) (Nat.le_of_ble_eq_true rfl) d_M_back_47 (Or.inr rfl) h
        · replace h := h.2 c6
          refine v_aload_n cx 0 d_M_back_23 rfl rfl ?_
          refine gf_M_7 cx d_M_back_24 ?_
          refine v_iload_n cx 1 d_M_back_27 rfl rfl ?_
          refine v_aload_n cx 0 d_M_back_28 rfl rfl ?_
          refine gf_M_16 cx d_M_back_29 ?_
          refine v_iload_n cx 1 d_M_back_32 rfl rfl ?_
          obtain ⟨hb8, h⟩ := h
          refine v_iald cx zl_44 (by decide) hb8.1 hb8.2 d_M_back_33 (fun hl9 => ?_)
          refine v_iast cx zl_42 (by decide) hb8.1 hb8.2 hl9 d_M_back_34 ?_
          refine v_ns (fun σ10 eσ10 => ?_)
          replace h := h σ10 eσ10
          refine v_iinc (lv' := [(0, .ref (ad 41)), (1, .int (zI (y4 + 1)))]) cx 1 d_M_back_35 rfl (by decide) rfl rfl ?_
          refine v_goto cx 16 d_M_back_38 (by decide) ?_
          obtain ⟨hI2, hz12, hm2⟩ := h
          exact ih16 _ _ (Nat.lt_of_lt_of_le hm2 (Nat.le_of_lt_succ hmm16)) hI2 hz12
    exact L16 _ _ _ (Nat.lt_succ_self _) h0 ⟨by decide, by decide⟩
  · replace h := h.2 c3
    refine v_iconst cx d_M_back_12 ?_
    exact rt _ _ _ _ _ _ (Nat.le_of_ble_eq_true rfl) (Nat.le_of_ble_eq_true rfl) d_M_back_13 (Or.inl rfl) h
theorem zto_M_count_8 {a : Int} (h0 : a ≠ 0) (h1 : a ≠ 1) (h2 : a ≠ 2) (h3 : a ≠ 3) (h4 : a ≠ 4) (h5 : a ≠ 5) : a < 0 ∨ 5 < a := by omega
def q_M_count (what : Int) (K : Int → zS → Prop) (σ : zS) : Prop :=
  ∀ σ1 : zS, σ1 = zU σ 41 0 0 → (what = 0 →
    K (σ1 42 0) σ1) ∧ (what = 1 →
    K (σ1 42 1) σ1) ∧ (what = 2 →
    ∃ (I64 : Int → Int → zS → Prop) (μ64 : Int → Int → zS → Nat), (I64 0 0 σ1) ∧ ∀ (y7 y8 : Int) (σ9 : zS), I64 y7 y8 σ9 → zR y7 → zR y8 → 
    q_M_places (fun r11 σ10 =>
      (r11 ≤ y8 →
        K y7 σ10) ∧ (y8 < r11 →
        (0 ≤ 94 + y8 ∧ 94 + y8 < 499) ∧ (∀ x15 : Int, x15 = y7 + (σ10 42 (94 + y8)) → I64 x15 (y8 + 1) σ10 ∧ zR x15 ∧ zR (y8 + 1) ∧ μ64 x15 (y8 + 1) σ10 < μ64 y7 y8 σ9))) σ9) ∧ (what = 3 →
    ∃ (I94 : Int → Int → zS → Prop) (μ94 : Int → Int → zS → Nat), (I94 0 0 σ1) ∧ ∀ (y20 y21 : Int) (σ22 : zS), I94 y20 y21 σ22 → zR y20 → zR y21 → 
    (4 ≤ y21 →
      K y20 σ22) ∧ (y21 < 4 →
      q_M_many y21 (fun r25 σ24 =>
        (r25 ≤ 0 →
          ∀ x27 : Int, x27 = zOr y20 0 → I94 x27 (y21 + 1) σ24 ∧ zR (y21 + 1) ∧ μ94 x27 (y21 + 1) σ24 < μ94 y20 y21 σ22) ∧ (0 < r25 →
          ∀ x30 : Int, x30 = zOr y20 (zShl 1 y21) → I94 x30 (y21 + 1) σ24 ∧ zR (y21 + 1) ∧ μ94 x30 (y21 + 1) σ24 < μ94 y20 y21 σ22)) σ22)) ∧ (what = 4 →
    K (σ1 41 3) σ1) ∧ (what = 5 →
    ∃ (I132 : Int → Int → zS → Prop) (μ132 : Int → Int → zS → Nat), (I132 0 0 σ1) ∧ ∀ (y36 y37 : Int) (σ38 : zS), I132 y36 y37 σ38 → zR y36 → zR y37 → 
    q_M_places (fun r40 σ39 =>
      (r40 ≤ y37 →
        K y36 σ39) ∧ (y37 < r40 →
        q_M_runOf y37 (fun r43 σ42 =>
          (r43 ≠ (-1) →
            ∀ x45 : Int, x45 = y36 + 0 → I132 x45 (y37 + 1) σ42 ∧ zR x45 ∧ zR (y37 + 1) ∧ μ132 x45 (y37 + 1) σ42 < μ132 y36 y37 σ38) ∧ (r43 = (-1) →
            ∀ x49 : Int, x49 = y36 + 1 → I132 x49 (y37 + 1) σ42 ∧ zR x49 ∧ zR (y37 + 1) ∧ μ132 x49 (y37 + 1) σ42 < μ132 y36 y37 σ38)) σ39)) σ38) ∧ (what ≠ 0 ∧ what ≠ 1 ∧ what ≠ 2 ∧ what ≠ 3 ∧ what ≠ 4 ∧ what ≠ 5 →
    K (-1) σ1)
abbrev rm_M_count : Room := { frames := 3, cells := 0, slots := 0, locals := 70 }
set_option maxRecDepth 20000 in
set_option maxHeartbeats 4000000 in
theorem s_M_count {Ω : zO} {ad : Nat → Nat} {what : Int} {K : Int → zS → Prop} {σ : zS} (hwhat : zR what) (h : q_M_count what K σ) : zMi Ω y_M_count (.code y_M_count c_M_count 4 (some .int)) rm_M_count zLy ad [.ref (ad 41), .int (zI what)] σ K := by
  refine z_ofi (lv := [(0, .ref (ad 41)), (1, .int (zI what))]) (by decide) rfl (Nat.le_of_ble_eq_true rfl) ?_
  intro Γ Q cx rt
  unfold q_M_count at h
  refine v_aload_n cx 0 d_M_count_0 rfl rfl ?_
  refine v_iconst cx d_M_count_1 ?_
  refine pf_M_87 cx ⟨by decide, by decide⟩ d_M_count_2 ?_
  refine v_ns (fun σ1 eσ1 => ?_)
  replace h := h σ1 eσ1
  refine v_iconst cx d_M_count_5 ?_
  refine v_istore_n (lv' := [(0, .ref (ad 41)), (1, .int (zI what)), (2, .int (zI 0))]) cx d_M_count_6 rfl (by decide) rfl rfl ?_
  refine v_iload_n cx 1 d_M_count_7 rfl rfl ?_
  by_cases c2 : what = 0
  · replace h := h.1 c2
    refine v_tableIn cx 48 d_M_count_8 hwhat (by rw [c2]; decide) (by rw [c2]; decide) (by rw [c2]; rfl) (by decide) ?_
    refine v_aload_n cx 0 d_M_count_48 rfl rfl ?_
    refine gf_M_7 cx d_M_count_49 ?_
    refine v_iconst cx d_M_count_52 ?_
    refine v_iald cx zl_42 (by decide) (by decide) (by decide) d_M_count_53 (fun hl3 => ?_)
    exact rt _ _ _ _ _ _ (Nat.le_of_ble_eq_true rfl) (Nat.le_of_ble_eq_true rfl) d_M_count_54 hl3 h
  replace h := h.2
  by_cases c4 : what = 1
  · replace h := h.1 c4
    refine v_tableIn cx 55 d_M_count_8 hwhat (by rw [c4]; decide) (by rw [c4]; decide) (by rw [c4]; rfl) (by decide) ?_
    refine v_aload_n cx 0 d_M_count_55 rfl rfl ?_
    refine gf_M_7 cx d_M_count_56 ?_
    refine v_iconst cx d_M_count_59 ?_
    refine v_iald cx zl_42 (by decide) (by decide) (by decide) d_M_count_60 (fun hl5 => ?_)
    exact rt _ _ _ _ _ _ (Nat.le_of_ble_eq_true rfl) (Nat.le_of_ble_eq_true rfl) d_M_count_61 hl5 h
  replace h := h.2
  by_cases c6 : what = 2
  · replace h := h.1 c6
    refine v_tableIn cx 62 d_M_count_8 hwhat (by rw [c6]; decide) (by rw [c6]; decide) (by rw [c6]; rfl) (by decide) ?_
    refine v_iconst cx d_M_count_62 ?_
    refine v_istore_n (lv' := [(0, .ref (ad 41)), (1, .int (zI what)), (2, .int (zI 0)), (3, .int (zI 0))]) cx d_M_count_63 rfl (by decide) rfl rfl ?_
    refine v_sb (lv' := [(0, .ref (ad 41)), (2, .int (zI 0)), (3, .int (zI 0))]) [0, 2, 3] rfl ?_
    obtain ⟨I64, μ64, h0, h⟩ := h
    have L64 : ∀ (N64 : Nat) (y7 y8 : Int) (σ9 : zS), μ64 y7 y8 σ9 < N64 → I64 y7 y8 σ9 → zR y7 → zR y8 → zV Ω Γ rm_M_count 4 Q 0 0 zLy ad σ9 64 [(0, .ref (ad 41)), (2, .int (zI y7)), (3, .int (zI y8))] [] := by
      intro N64
      induction N64 with
      | zero => intro y7 y8 σ9 hm; exact absurd hm (Nat.not_lt_zero _)
      | succ N64 ih64 =>
        intro y7 y8 σ9 hmm64 hI hy7 hy8
        replace h := h y7 y8 σ9 hI hy7 hy8
        refine v_iload_n cx 2 d_M_count_64 rfl rfl ?_
        refine v_aload_n cx 0 d_M_count_65 rfl rfl ?_
        refine v_callVi0 (st := [.int (zI y8)]) cx (s_M_places  h) yk_M_places lk_M_90 zl_41 rfl rfl rfl (Nat.le_of_ble_eq_true rfl) ⟨Nat.le_of_ble_eq_true rfl, Nat.le_of_ble_eq_true rfl⟩ ⟨rfl, rfl⟩ ⟨(Nat.le_of_ble_eq_true rfl), (Nat.le_of_ble_eq_true rfl)⟩ d_M_count_66 (fun r11 σ10 hr11 h => ?_)
        refine v_icmp_ge cx 90 d_M_count_69 (by decide) hy8 hr11 (fun c12 => ?_) (fun c12 => ?_)
        · replace h := h.1 c12
          refine v_iload_n cx 1 d_M_count_90 rfl rfl ?_
          exact rt _ _ _ _ _ _ (Nat.le_of_ble_eq_true rfl) (Nat.le_of_ble_eq_true rfl) d_M_count_91 hy7 h
        · replace h := h.2 c12
          refine v_iload_n cx 1 d_M_count_72 rfl rfl ?_
          refine v_aload_n cx 0 d_M_count_73 rfl rfl ?_
          refine gf_M_7 cx d_M_count_74 ?_
          refine v_bipush cx (by decide) d_M_count_77 ?_
          refine v_iload_n cx 2 d_M_count_79 rfl rfl ?_
          refine v_iadd cx d_M_count_80 ?_
          obtain ⟨hb13, h⟩ := h
          refine v_iald cx zl_42 (by decide) hb13.1 hb13.2 d_M_count_81 (fun hl14 => ?_)
          refine v_iadd cx d_M_count_82 ?_
          refine v_nm (fun x15 ex15 => ?_)
          replace h := h x15 ex15
          refine v_istore_n (lv' := [(0, .ref (ad 41)), (2, .int (zI x15)), (3, .int (zI y8))]) cx d_M_count_83 rfl (by decide) rfl rfl ?_
          refine v_iinc (lv' := [(0, .ref (ad 41)), (2, .int (zI x15)), (3, .int (zI (y8 + 1)))]) cx 2 d_M_count_84 rfl (by decide) rfl rfl ?_
          refine v_goto cx 64 d_M_count_87 (by decide) ?_
          obtain ⟨hI2, hz17, hz18, hm2⟩ := h
          exact ih64 _ _ _ (Nat.lt_of_lt_of_le hm2 (Nat.le_of_lt_succ hmm64)) hI2 hz17 hz18
    exact L64 _ _ _ _ (Nat.lt_succ_self _) h0 ⟨by decide, by decide⟩ ⟨by decide, by decide⟩
  replace h := h.2
  by_cases c19 : what = 3
  · replace h := h.1 c19
    refine v_tableIn cx 92 d_M_count_8 hwhat (by rw [c19]; decide) (by rw [c19]; decide) (by rw [c19]; rfl) (by decide) ?_
    refine v_iconst cx d_M_count_92 ?_
    refine v_istore_n (lv' := [(0, .ref (ad 41)), (1, .int (zI what)), (2, .int (zI 0)), (3, .int (zI 0))]) cx d_M_count_93 rfl (by decide) rfl rfl ?_
    refine v_sb (lv' := [(0, .ref (ad 41)), (2, .int (zI 0)), (3, .int (zI 0))]) [0, 2, 3] rfl ?_
    obtain ⟨I94, μ94, h0, h⟩ := h
    have L94 : ∀ (N94 : Nat) (y20 y21 : Int) (σ22 : zS), μ94 y20 y21 σ22 < N94 → I94 y20 y21 σ22 → zR y20 → zR y21 → zV Ω Γ rm_M_count 4 Q 0 0 zLy ad σ22 94 [(0, .ref (ad 41)), (2, .int (zI y20)), (3, .int (zI y21))] [] := by
      intro N94
      induction N94 with
      | zero => intro y20 y21 σ22 hm; exact absurd hm (Nat.not_lt_zero _)
      | succ N94 ih94 =>
        intro y20 y21 σ22 hmm94 hI hy20 hy21
        replace h := h y20 y21 σ22 hI hy20 hy21
        refine v_iload_n cx 2 d_M_count_94 rfl rfl ?_
        refine v_iconst cx d_M_count_95 ?_
        refine v_icmp_ge cx 123 d_M_count_96 (by decide) hy21 ⟨by decide, by decide⟩ (fun c23 => ?_) (fun c23 => ?_)
        · replace h := h.1 c23
          refine v_iload_n cx 1 d_M_count_123 rfl rfl ?_
          exact rt _ _ _ _ _ _ (Nat.le_of_ble_eq_true rfl) (Nat.le_of_ble_eq_true rfl) d_M_count_124 hy20 h
        · replace h := h.2 c23
          refine v_iload_n cx 1 d_M_count_99 rfl rfl ?_
          refine v_aload_n cx 0 d_M_count_100 rfl rfl ?_
          refine v_iload_n cx 2 d_M_count_101 rfl rfl ?_
          refine v_callVi0 (st := [.int (zI y20)]) cx (s_M_many hy21 h) yk_M_many lk_M_129 zl_41 rfl rfl rfl (Nat.le_of_ble_eq_true rfl) ⟨Nat.le_of_ble_eq_true rfl, Nat.le_of_ble_eq_true rfl⟩ ⟨rfl, rfl⟩ ⟨(Nat.le_of_ble_eq_true rfl), (Nat.le_of_ble_eq_true rfl)⟩ d_M_count_102 (fun r25 σ24 hr25 h => ?_)
          refine v_if_le cx 114 d_M_count_105 (by decide) hr25 (fun c26 => ?_) (fun c26 => ?_)
          · replace h := h.1 c26
            refine v_iconst cx d_M_count_114 ?_
            refine v_ior cx d_M_count_115 ?_
            refine v_nm (fun x27 ex27 => ?_)
            replace h := h x27 ex27
            have hx27 : zR x27 := by rw [ex27]; exact (zR_or _ _)
            refine v_istore_n (lv' := [(0, .ref (ad 41)), (2, .int (zI x27)), (3, .int (zI y21))]) cx d_M_count_116 rfl (by decide) rfl rfl ?_
            refine v_iinc (lv' := [(0, .ref (ad 41)), (2, .int (zI x27)), (3, .int (zI (y21 + 1)))]) cx 2 d_M_count_117 rfl (by decide) rfl rfl ?_
            refine v_goto cx 94 d_M_count_120 (by decide) ?_
            obtain ⟨hI2, hz29, hm2⟩ := h
            exact ih94 _ _ _ (Nat.lt_of_lt_of_le hm2 (Nat.le_of_lt_succ hmm94)) hI2 hx27 hz29
          · replace h := h.2 c26
            refine v_iconst cx d_M_count_108 ?_
            refine v_iload_n cx 2 d_M_count_109 rfl rfl ?_
            refine v_ishl cx d_M_count_110 ?_
            refine v_goto cx 115 d_M_count_111 (by decide) ?_
            refine v_ior cx d_M_count_115 ?_
            refine v_nm (fun x30 ex30 => ?_)
            replace h := h x30 ex30
            have hx30 : zR x30 := by rw [ex30]; exact (zR_or _ _)
            refine v_istore_n (lv' := [(0, .ref (ad 41)), (2, .int (zI x30)), (3, .int (zI y21))]) cx d_M_count_116 rfl (by decide) rfl rfl ?_
            refine v_iinc (lv' := [(0, .ref (ad 41)), (2, .int (zI x30)), (3, .int (zI (y21 + 1)))]) cx 2 d_M_count_117 rfl (by decide) rfl rfl ?_
            refine v_goto cx 94 d_M_count_120 (by decide) ?_
            obtain ⟨hI2, hz32, hm2⟩ := h
            exact ih94 _ _ _ (Nat.lt_of_lt_of_le hm2 (Nat.le_of_lt_succ hmm94)) hI2 hx30 hz32
    exact L94 _ _ _ _ (Nat.lt_succ_self _) h0 ⟨by decide, by decide⟩ ⟨by decide, by decide⟩
  replace h := h.2
  by_cases c33 : what = 4
  · replace h := h.1 c33
    refine v_tableIn cx 125 d_M_count_8 hwhat (by rw [c33]; decide) (by rw [c33]; decide) (by rw [c33]; rfl) (by decide) ?_
    refine v_aload_n cx 0 d_M_count_125 rfl rfl ?_
    refine gf_M_293 cx d_M_count_126 (fun hl34 => ?_)
    exact rt _ _ _ _ _ _ (Nat.le_of_ble_eq_true rfl) (Nat.le_of_ble_eq_true rfl) d_M_count_129 hl34 h
  replace h := h.2
  by_cases c35 : what = 5
  · replace h := h.1 c35
    refine v_tableIn cx 130 d_M_count_8 hwhat (by rw [c35]; decide) (by rw [c35]; decide) (by rw [c35]; rfl) (by decide) ?_
    refine v_iconst cx d_M_count_130 ?_
    refine v_istore_n (lv' := [(0, .ref (ad 41)), (1, .int (zI what)), (2, .int (zI 0)), (3, .int (zI 0))]) cx d_M_count_131 rfl (by decide) rfl rfl ?_
    refine v_sb (lv' := [(0, .ref (ad 41)), (2, .int (zI 0)), (3, .int (zI 0))]) [0, 2, 3] rfl ?_
    obtain ⟨I132, μ132, h0, h⟩ := h
    have L132 : ∀ (N132 : Nat) (y36 y37 : Int) (σ38 : zS), μ132 y36 y37 σ38 < N132 → I132 y36 y37 σ38 → zR y36 → zR y37 → zV Ω Γ rm_M_count 4 Q 0 0 zLy ad σ38 132 [(0, .ref (ad 41)), (2, .int (zI y36)), (3, .int (zI y37))] [] := by
      intro N132
      induction N132 with
      | zero => intro y36 y37 σ38 hm; exact absurd hm (Nat.not_lt_zero _)
      | succ N132 ih132 =>
        intro y36 y37 σ38 hmm132 hI hy36 hy37
        replace h := h y36 y37 σ38 hI hy36 hy37
        refine v_iload_n cx 2 d_M_count_132 rfl rfl ?_
        refine v_aload_n cx 0 d_M_count_133 rfl rfl ?_
        refine v_callVi0 (st := [.int (zI y37)]) cx (s_M_places  h) yk_M_places lk_M_90 zl_41 rfl rfl rfl (Nat.le_of_ble_eq_true rfl) ⟨Nat.le_of_ble_eq_true rfl, Nat.le_of_ble_eq_true rfl⟩ ⟨rfl, rfl⟩ ⟨(Nat.le_of_ble_eq_true rfl), (Nat.le_of_ble_eq_true rfl)⟩ d_M_count_134 (fun r40 σ39 hr40 h => ?_)
        refine v_icmp_ge cx 163 d_M_count_137 (by decide) hy37 hr40 (fun c41 => ?_) (fun c41 => ?_)
        · replace h := h.1 c41
          refine v_iload_n cx 1 d_M_count_163 rfl rfl ?_
          exact rt _ _ _ _ _ _ (Nat.le_of_ble_eq_true rfl) (Nat.le_of_ble_eq_true rfl) d_M_count_164 hy36 h
        · replace h := h.2 c41
          refine v_iload_n cx 1 d_M_count_140 rfl rfl ?_
          refine v_aload_n cx 0 d_M_count_141 rfl rfl ?_
          refine v_iload_n cx 2 d_M_count_142 rfl rfl ?_
          refine v_callVi0 (st := [.int (zI y36)]) cx (s_M_runOf hy37 h) yk_M_runOf lk_M_194 zl_41 rfl rfl rfl (Nat.le_of_ble_eq_true rfl) ⟨Nat.le_of_ble_eq_true rfl, Nat.le_of_ble_eq_true rfl⟩ ⟨rfl, rfl⟩ ⟨(Nat.le_of_ble_eq_true rfl), (Nat.le_of_ble_eq_true rfl)⟩ d_M_count_143 (fun r43 σ42 hr43 h => ?_)
          refine v_iconst cx d_M_count_146 ?_
          refine v_icmp_ne cx 154 d_M_count_147 (by decide) hr43 ⟨by decide, by decide⟩ (fun c44 => ?_) (fun c44 => ?_)
          · replace h := h.1 c44
            refine v_iconst cx d_M_count_154 ?_
            refine v_iadd cx d_M_count_155 ?_
            refine v_nm (fun x45 ex45 => ?_)
            replace h := h x45 ex45
            refine v_istore_n (lv' := [(0, .ref (ad 41)), (2, .int (zI x45)), (3, .int (zI y37))]) cx d_M_count_156 rfl (by decide) rfl rfl ?_
            refine v_iinc (lv' := [(0, .ref (ad 41)), (2, .int (zI x45)), (3, .int (zI (y37 + 1)))]) cx 2 d_M_count_157 rfl (by decide) rfl rfl ?_
            refine v_goto cx 132 d_M_count_160 (by decide) ?_
            obtain ⟨hI2, hz47, hz48, hm2⟩ := h
            exact ih132 _ _ _ (Nat.lt_of_lt_of_le hm2 (Nat.le_of_lt_succ hmm132)) hI2 hz47 hz48
          · replace h := h.2 c44
            refine v_iconst cx d_M_count_150 ?_
            refine v_goto cx 155 d_M_count_151 (by decide) ?_
            refine v_iadd cx d_M_count_155 ?_
            refine v_nm (fun x49 ex49 => ?_)
            replace h := h x49 ex49
            refine v_istore_n (lv' := [(0, .ref (ad 41)), (2, .int (zI x49)), (3, .int (zI y37))]) cx d_M_count_156 rfl (by decide) rfl rfl ?_
            refine v_iinc (lv' := [(0, .ref (ad 41)), (2, .int (zI x49)), (3, .int (zI (y37 + 1)))]) cx 2 d_M_count_157 rfl (by decide) rfl rfl ?_
            refine v_goto cx 132 d_M_count_160 (by decide) ?_
            obtain ⟨hI2, hz51, hz52, hm2⟩ := h
            exact ih132 _ _ _ (Nat.lt_of_lt_of_le hm2 (Nat.le_of_lt_succ hmm132)) hI2 hz51 hz52
    exact L132 _ _ _ _ (Nat.lt_succ_self _) h0 ⟨by decide, by decide⟩ ⟨by decide, by decide⟩
  replace h := h.2
  replace h := h ⟨c2, c4, c6, c19, c33, c35⟩
  refine v_tableOut cx 165 d_M_count_8 hwhat (zto_M_count_8 c2 c4 c6 c19 c33 c35) (by decide) ?_
  refine v_iconst cx d_M_count_165 ?_
  exact rt _ _ _ _ _ _ (Nat.le_of_ble_eq_true rfl) (Nat.le_of_ble_eq_true rfl) d_M_count_166 ⟨by decide, by decide⟩ h
