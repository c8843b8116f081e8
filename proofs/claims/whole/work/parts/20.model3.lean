def q_M_heights (K : zS → Prop) (σ : zS) : Prop :=
  ∃ (I2 : Int → zS → Prop) (μ2 : Int → zS → Nat), (I2 0 σ) ∧ ∀ (y1 : Int) (σ2 : zS), I2 y1 σ2 → zR y1 → 
  ((σ2 50 1) ≤ y1 →
    K σ2) ∧ (y1 < (σ2 50 1) →
    ((σ2 41 14) ≠ (-1) →
      K σ2) ∧ ((σ2 41 14) = (-1) →
      q_M_mustSign (fun σ7 =>
        q_M_expects [114, 111, 119] (fun σ8 =>
          ∃ (I32 : Int → zS → Prop) (μ32 : Int → zS → Nat), (I32 0 σ8) ∧ ∀ (y9 : Int) (σ10 : zS), I32 y9 σ10 → zR y9 → 
          ((σ10 50 0) ≤ y9 →
            I2 (y1 + 1) σ10 ∧ zR (y1 + 1) ∧ μ2 (y1 + 1) σ10 < μ2 y1 σ2) ∧ (y9 < (σ10 50 0) →
            q_M_number 0 99 (fun r16 σ15 =>
              ((σ15 41 14) ≠ (-1) →
                I32 (y9 + 1) σ15 ∧ zR (y9 + 1) ∧ μ32 (y9 + 1) σ15 < μ32 y9 σ10) ∧ ((σ15 41 14) = (-1) →
                (0 ≤ (13 + (y1 * (σ15 50 0))) + y9 ∧ (13 + (y1 * (σ15 50 0))) + y9 < 499) ∧ (∀ σ23 : zS, σ23 = zU σ15 50 ((13 + (y1 * (σ15 50 0))) + y9) r16 → I32 (y9 + 1) σ23 ∧ zR (y9 + 1) ∧ μ32 (y9 + 1) σ23 < μ32 y9 σ10))) σ10)) σ7) σ2))
abbrev rm_M_heights : Room := { frames := 6, cells := 0, slots := 0, locals := 129 }
set_option maxRecDepth 20000 in
set_option maxHeartbeats 4000000 in
theorem s_M_heights {Ω : zO} {ad : Nat → Nat} {K : zS → Prop} {σ : zS}  (h : q_M_heights K σ) : zMv Ω y_M_heights (.code y_M_heights c_M_heights 4 none) rm_M_heights zLy ad [.ref (ad 41)] σ K := by
  refine z_ofv (lv := [(0, .ref (ad 41))]) (by decide) rfl (Nat.le_of_ble_eq_true rfl) ?_
  intro Γ Q cx rt
  unfold q_M_heights at h
  refine v_iconst cx d_M_heights_0 ?_
  refine v_istore_n (lv' := [(0, .ref (ad 41)), (1, .int (zI 0))]) cx d_M_heights_1 rfl (by decide) rfl rfl ?_
  obtain ⟨I2, μ2, h0, h⟩ := h
  have L2 : ∀ (N2 : Nat) (y1 : Int) (σ2 : zS), μ2 y1 σ2 < N2 → I2 y1 σ2 → zR y1 → zV Ω Γ rm_M_heights 4 Q 0 0 zLy ad σ2 2 [(0, .ref (ad 41)), (1, .int (zI y1))] [] := by
    intro N2
    induction N2 with
    | zero => intro y1 σ2 hm; exact absurd hm (Nat.not_lt_zero _)
    | succ N2 ih2 =>
      intro y1 σ2 hmm2 hI hy1
      replace h := h y1 σ2 hI hy1
      refine v_iload_n cx 1 d_M_heights_2 rfl rfl ?_
      refine v_aload_n cx 0 d_M_heights_3 rfl rfl ?_
      refine gf_M_38 cx d_M_heights_4 ?_
      refine v_iconst cx d_M_heights_7 ?_
      refine v_iald cx zl_50 (by decide) (by decide) (by decide) d_M_heights_8 (fun hl3 => ?_)
      refine v_icmp_ge cx 89 d_M_heights_9 (by decide) hy1 hl3 (fun c4 => ?_) (fun c4 => ?_)
      · replace h := h.1 c4
        exact rt _ _ _ _ _ (Nat.le_of_ble_eq_true rfl) (Nat.le_of_ble_eq_true rfl) d_M_heights_89 h
      · replace h := h.2 c4
        refine v_aload_n cx 0 d_M_heights_12 rfl rfl ?_
        refine gf_M_34 cx d_M_heights_13 (fun hl5 => ?_)
        refine v_iconst cx d_M_heights_16 ?_
        refine v_icmp_ne cx 89 d_M_heights_17 (by decide) hl5 ⟨by decide, by decide⟩ (fun c6 => ?_) (fun c6 => ?_)
        · replace h := h.1 c6
          exact rt _ _ _ _ _ (Nat.le_of_ble_eq_true rfl) (Nat.le_of_ble_eq_true rfl) d_M_heights_89 h
        · replace h := h.2 c6
          refine v_aload_n cx 0 d_M_heights_20 rfl rfl ?_
          refine v_callVv0 (st := []) cx (s_M_mustSign  h) yk_M_mustSign lk_M_243 zl_41 rfl rfl rfl (Nat.le_of_ble_eq_true rfl) ⟨Nat.le_of_ble_eq_true rfl, Nat.le_of_ble_eq_true rfl⟩ ⟨rfl, rfl⟩ ⟨(Nat.le_of_ble_eq_true rfl), (Nat.le_of_ble_eq_true rfl)⟩ d_M_heights_21 (fun σ7 h => ?_)
          refine v_aload_n cx 0 d_M_heights_24 rfl rfl ?_
          refine v_ldcS cx zsr_35 d_M_heights_25 ?_
          refine v_callVv0 (st := []) cx (s_M_expects zsb_35 h) yk_M_expects lk_M_248 zl_41 rfl rfl rfl (Nat.le_of_ble_eq_true rfl) ⟨Nat.le_of_ble_eq_true rfl, Nat.le_of_ble_eq_true rfl⟩ ⟨rfl, rfl⟩ ⟨(Nat.le_of_ble_eq_true rfl), (Nat.le_of_ble_eq_true rfl)⟩ d_M_heights_27 (fun σ8 h => ?_)
          refine v_iconst cx d_M_heights_30 ?_
          refine v_istore_n (lv' := [(0, .ref (ad 41)), (1, .int (zI y1)), (2, .int (zI 0))]) cx d_M_heights_31 rfl (by decide) rfl rfl ?_
          obtain ⟨I32, μ32, h0, h⟩ := h
          have L32 : ∀ (N32 : Nat) (y9 : Int) (σ10 : zS), μ32 y9 σ10 < N32 → I32 y9 σ10 → zR y9 → zV Ω Γ rm_M_heights 4 Q 0 0 zLy ad σ10 32 [(0, .ref (ad 41)), (1, .int (zI y1)), (2, .int (zI y9))] [] := by
            intro N32
            induction N32 with
            | zero => intro y9 σ10 hm; exact absurd hm (Nat.not_lt_zero _)
            | succ N32 ih32 =>
              intro y9 σ10 hmm32 hI hy9
              replace h := h y9 σ10 hI hy9
              refine v_iload_n cx 2 d_M_heights_32 rfl rfl ?_
              refine v_aload_n cx 0 d_M_heights_33 rfl rfl ?_
              refine gf_M_38 cx d_M_heights_34 ?_
              refine v_iconst cx d_M_heights_37 ?_
              refine v_iald cx zl_50 (by decide) (by decide) (by decide) d_M_heights_38 (fun hl11 => ?_)
              refine v_icmp_ge cx 83 d_M_heights_39 (by decide) hy9 hl11 (fun c12 => ?_) (fun c12 => ?_)
              · replace h := h.1 c12
                refine v_iinc (lv' := [(0, .ref (ad 41)), (1, .int (zI (y1 + 1))), (2, .int (zI y9))]) cx 1 d_M_heights_83 rfl (by decide) rfl rfl ?_
                refine v_goto cx 2 d_M_heights_86 (by decide) ?_
                refine v_sb (lv' := [(0, .ref (ad 41)), (1, .int (zI (y1 + 1)))]) [0, 1] rfl ?_
                obtain ⟨hI2, hz14, hm2⟩ := h
                exact ih2 _ _ (Nat.lt_of_lt_of_le hm2 (Nat.le_of_lt_succ hmm2)) hI2 hz14
              · replace h := h.2 c12
                refine v_aload_n cx 0 d_M_heights_42 rfl rfl ?_
                refine v_iconst cx d_M_heights_43 ?_
                refine v_bipush cx (by decide) d_M_heights_44 ?_
                refine v_callVi0 (st := []) cx (s_M_number ⟨by decide, by decide⟩ ⟨by decide, by decide⟩ h) yk_M_number lk_M_252 zl_41 rfl rfl rfl (Nat.le_of_ble_eq_true rfl) ⟨Nat.le_of_ble_eq_true rfl, Nat.le_of_ble_eq_true rfl⟩ ⟨rfl, rfl⟩ ⟨(Nat.le_of_ble_eq_true rfl), (Nat.le_of_ble_eq_true rfl)⟩ d_M_heights_46 (fun r16 σ15 hr16 h => ?_)
                refine v_istore_n (lv' := [(0, .ref (ad 41)), (1, .int (zI y1)), (2, .int (zI y9)), (3, .int (zI r16))]) cx d_M_heights_49 rfl (by decide) rfl rfl ?_
                refine v_aload_n cx 0 d_M_heights_50 rfl rfl ?_
                refine gf_M_34 cx d_M_heights_51 (fun hl17 => ?_)
                refine v_iconst cx d_M_heights_54 ?_
                refine v_icmp_ne cx 77 d_M_heights_55 (by decide) hl17 ⟨by decide, by decide⟩ (fun c18 => ?_) (fun c18 => ?_)
                · replace h := h.1 c18
                  refine v_iinc (lv' := [(0, .ref (ad 41)), (1, .int (zI y1)), (2, .int (zI (y9 + 1))), (3, .int (zI r16))]) cx 2 d_M_heights_77 rfl (by decide) rfl rfl ?_
                  refine v_goto cx 32 d_M_heights_80 (by decide) ?_
                  refine v_sb (lv' := [(0, .ref (ad 41)), (1, .int (zI y1)), (2, .int (zI (y9 + 1)))]) [0, 1, 2] rfl ?_
                  obtain ⟨hI2, hz20, hm2⟩ := h
                  exact ih32 _ _ (Nat.lt_of_lt_of_le hm2 (Nat.le_of_lt_succ hmm32)) hI2 hz20
                · replace h := h.2 c18
                  refine v_aload_n cx 0 d_M_heights_58 rfl rfl ?_
                  refine gf_M_38 cx d_M_heights_59 ?_
                  refine v_bipush cx (by decide) d_M_heights_62 ?_
                  refine v_iload_n cx 1 d_M_heights_64 rfl rfl ?_
                  refine v_aload_n cx 0 d_M_heights_65 rfl rfl ?_
                  refine gf_M_38 cx d_M_heights_66 ?_
                  refine v_iconst cx d_M_heights_69 ?_
                  refine v_iald cx zl_50 (by decide) (by decide) (by decide) d_M_heights_70 (fun hl21 => ?_)
                  refine v_imul cx d_M_heights_71 ?_
                  refine v_iadd cx d_M_heights_72 ?_
                  refine v_iload_n cx 2 d_M_heights_73 rfl rfl ?_
                  refine v_iadd cx d_M_heights_74 ?_
                  refine v_iload_n cx 3 d_M_heights_75 rfl rfl ?_
                  obtain ⟨hb22, h⟩ := h
                  refine v_iast cx zl_50 (by decide) hb22.1 hb22.2 hr16 d_M_heights_76 ?_
                  refine v_ns (fun σ23 eσ23 => ?_)
                  replace h := h σ23 eσ23
                  refine v_iinc (lv' := [(0, .ref (ad 41)), (1, .int (zI y1)), (2, .int (zI (y9 + 1))), (3, .int (zI r16))]) cx 2 d_M_heights_77 rfl (by decide) rfl rfl ?_
                  refine v_goto cx 32 d_M_heights_80 (by decide) ?_
                  refine v_sb (lv' := [(0, .ref (ad 41)), (1, .int (zI y1)), (2, .int (zI (y9 + 1)))]) [0, 1, 2] rfl ?_
                  obtain ⟨hI2, hz25, hm2⟩ := h
                  exact ih32 _ _ (Nat.lt_of_lt_of_le hm2 (Nat.le_of_lt_succ hmm32)) hI2 hz25
          exact L32 _ _ _ (Nat.lt_succ_self _) h0 ⟨by decide, by decide⟩
  exact L2 _ _ _ (Nat.lt_succ_self _) h0 ⟨by decide, by decide⟩
def q_M_fault (K : Int → zS → Prop) (σ : zS) : Prop :=
  ∀ σ1 : zS, σ1 = zU σ 41 0 0 → K (σ1 41 14) σ1
abbrev rm_M_fault : Room := { frames := 0, cells := 0, slots := 0, locals := 0 }
set_option maxRecDepth 20000 in
set_option maxHeartbeats 4000000 in
theorem s_M_fault {Ω : zO} {ad : Nat → Nat} {K : Int → zS → Prop} {σ : zS}  (h : q_M_fault K σ) : zMi Ω y_M_fault (.code y_M_fault c_M_fault 1 (some .int)) rm_M_fault zLy ad [.ref (ad 41)] σ K := by
  refine z_ofi (lv := [(0, .ref (ad 41))]) (by decide) rfl (Nat.le_of_ble_eq_true rfl) ?_
  intro Γ Q cx rt
  unfold q_M_fault at h
  refine v_aload_n cx 0 d_M_fault_0 rfl rfl ?_
  refine v_iconst cx d_M_fault_1 ?_
  refine pf_M_87 cx ⟨by decide, by decide⟩ d_M_fault_2 ?_
  refine v_ns (fun σ1 eσ1 => ?_)
  replace h := h σ1 eσ1
  refine v_aload_n cx 0 d_M_fault_5 rfl rfl ?_
  refine gf_M_34 cx d_M_fault_6 (fun hl2 => ?_)
  exact rt _ _ _ _ _ _ (Nat.le_of_ble_eq_true rfl) (Nat.le_of_ble_eq_true rfl) d_M_fault_9 hl2 h
theorem zto_M_place_40 {a : Int} (h0 : a ≠ 0) (h1 : a ≠ 1) (h2 : a ≠ 2) : a < 0 ∨ 2 < a := by omega
def q_M_place (place : Int) (what : Int) (K : Int → zS → Prop) (σ : zS) : Prop :=
  q_M_isPlace place (fun r2 σ1 =>
    ∃ J27 : Int → zS → Prop, (∀ (w3 : Int) (σ4 : zS), J27 w3 σ4 → zR w3 → 
      ∀ σ5 : zS, σ5 = zU σ4 41 0 w3 → ((σ5 41 0) ≤ 0 →
        (what = 0 →
          (0 ≤ 13 + place ∧ 13 + place < 499) ∧ (K (σ5 42 (13 + place)) σ5)) ∧ (what = 1 →
          (0 ≤ 94 + place ∧ 94 + place < 499) ∧ (K (σ5 42 (94 + place)) σ5)) ∧ (what = 2 →
          q_M_isFlat place (fun r16 σ15 =>
            (r16 = 0 →
              K 0 σ15) ∧ (r16 ≠ 0 →
              K 1 σ15)) σ5) ∧ (what ≠ 0 ∧ what ≠ 1 ∧ what ≠ 2 →
          ∃ (I107 : Int → Int → zS → Prop) (μ107 : Int → Int → zS → Nat), (I107 0 0 σ5) ∧ ∀ (y18 y19 : Int) (σ20 : zS), I107 y18 y19 σ20 → zR y18 → zR y19 → 
          (8 ≤ y19 →
            K y18 σ20) ∧ (y19 < 8 →
            q_M_canStep place y19 (fun r23 σ22 =>
              (r23 = 0 →
                ∀ x25 : Int, x25 = zOr y18 0 → I107 x25 (y19 + 1) σ22 ∧ zR (y19 + 1) ∧ μ107 x25 (y19 + 1) σ22 < μ107 y18 y19 σ20) ∧ (r23 ≠ 0 →
                ∀ x28 : Int, x28 = zOr y18 (zShl 1 y19) → I107 x28 (y19 + 1) σ22 ∧ zR (y19 + 1) ∧ μ107 x28 (y19 + 1) σ22 < μ107 y18 y19 σ20)) σ20))) ∧ (0 < (σ5 41 0) →
        K 0 σ5)) ∧
    ((r2 ≠ 0 →
        q_M_isIn what 0 3 (fun r33 σ32 =>
          (r33 ≠ 0 →
            J27 0 σ32) ∧ (r33 = 0 →
            J27 2 σ32)) σ1) ∧ (r2 = 0 →
        J27 1 σ1))) σ
abbrev rm_M_place : Room := { frames := 4, cells := 0, slots := 0, locals := 91 }
set_option maxRecDepth 20000 in
set_option maxHeartbeats 4000000 in
theorem s_M_place {Ω : zO} {ad : Nat → Nat} {place : Int} {what : Int} {K : Int → zS → Prop} {σ : zS} (hplace : zR place) (hwhat : zR what) (h : q_M_place place what K σ) : zMi Ω y_M_place (.code y_M_place c_M_place 5 (some .int)) rm_M_place zLy ad [.ref (ad 41), .int (zI place), .int (zI what)] σ K := by
  refine z_ofi (lv := [(0, .ref (ad 41)), (1, .int (zI place)), (2, .int (zI what))]) (by decide) rfl (Nat.le_of_ble_eq_true rfl) ?_
  intro Γ Q cx rt
  unfold q_M_place at h
  refine v_aload_n cx 0 d_M_place_0 rfl rfl ?_
  refine v_aload_n cx 0 d_M_place_1 rfl rfl ?_
  refine v_iload_n cx 1 d_M_place_2 rfl rfl ?_
  refine v_callVz0 (st := [.ref (ad 41)]) cx (s_M_isPlace hplace h) yk_M_isPlace lk_M_203 zl_41 rfl rfl rfl (Nat.le_of_ble_eq_true rfl) ⟨Nat.le_of_ble_eq_true rfl, Nat.le_of_ble_eq_true rfl⟩ ⟨rfl, rfl⟩ ⟨(Nat.le_of_ble_eq_true rfl), (Nat.le_of_ble_eq_true rfl)⟩ d_M_place_3 (fun r2 σ1 hr2 h => ?_)
  obtain ⟨J27, hJ27, h⟩ := h
  have G27 : ∀ (w3 : Int) (σ4 : zS), J27 w3 σ4 → zR w3 → zV Ω Γ rm_M_place 5 Q 0 0 zLy ad σ4 27 [(0, .ref (ad 41)), (1, .int (zI place)), (2, .int (zI what))] [.int (zI w3), .ref (ad 41)] := by
    intro w3 σ4 hJ hw3
    replace h := hJ27 w3 σ4 hJ hw3
    refine pf_M_87 cx hw3 d_M_place_27 ?_
    refine v_ns (fun σ5 eσ5 => ?_)
    replace h := h σ5 eσ5
    refine v_aload_n cx 0 d_M_place_30 rfl rfl ?_
    refine gf_M_87 cx d_M_place_31 (fun hl6 => ?_)
    refine v_if_le cx 39 d_M_place_34 (by decide) hl6 (fun c7 => ?_) (fun c7 => ?_)
    · replace h := h.1 c7
      refine v_iload_n cx 2 d_M_place_39 rfl rfl ?_
      by_cases c8 : what = 0
      · replace h := h.1 c8
        refine v_tableIn cx 68 d_M_place_40 hwhat (by rw [c8]; decide) (by rw [c8]; decide) (by rw [c8]; rfl) (by decide) ?_
        refine v_aload_n cx 0 d_M_place_68 rfl rfl ?_
        refine gf_M_7 cx d_M_place_69 ?_
        refine v_bipush cx (by decide) d_M_place_72 ?_
        refine v_iload_n cx 1 d_M_place_74 rfl rfl ?_
        refine v_iadd cx d_M_place_75 ?_
        obtain ⟨hb9, h⟩ := h
        refine v_iald cx zl_42 (by decide) hb9.1 hb9.2 d_M_place_76 (fun hl10 => ?_)
        exact rt _ _ _ _ _ _ (Nat.le_of_ble_eq_true rfl) (Nat.le_of_ble_eq_true rfl) d_M_place_77 hl10 h
      replace h := h.2
      by_cases c11 : what = 1
      · replace h := h.1 c11
        refine v_tableIn cx 78 d_M_place_40 hwhat (by rw [c11]; decide) (by rw [c11]; decide) (by rw [c11]; rfl) (by decide) ?_
        refine v_aload_n cx 0 d_M_place_78 rfl rfl ?_
        refine gf_M_7 cx d_M_place_79 ?_
        refine v_bipush cx (by decide) d_M_place_82 ?_
        refine v_iload_n cx 1 d_M_place_84 rfl rfl ?_
        refine v_iadd cx d_M_place_85 ?_
        obtain ⟨hb12, h⟩ := h
        refine v_iald cx zl_42 (by decide) hb12.1 hb12.2 d_M_place_86 (fun hl13 => ?_)
        exact rt _ _ _ _ _ _ (Nat.le_of_ble_eq_true rfl) (Nat.le_of_ble_eq_true rfl) d_M_place_87 hl13 h
      replace h := h.2
      by_cases c14 : what = 2
      · replace h := h.1 c14
        refine v_tableIn cx 88 d_M_place_40 hwhat (by rw [c14]; decide) (by rw [c14]; decide) (by rw [c14]; rfl) (by decide) ?_
        refine v_aload_n cx 0 d_M_place_88 rfl rfl ?_
        refine v_iload_n cx 1 d_M_place_89 rfl rfl ?_
        refine v_callVz0 (st := []) cx (s_M_isFlat hplace h) yk_M_isFlat lk_M_126 zl_41 rfl rfl rfl (Nat.le_of_ble_eq_true rfl) ⟨Nat.le_of_ble_eq_true rfl, Nat.le_of_ble_eq_true rfl⟩ ⟨rfl, rfl⟩ ⟨(Nat.le_of_ble_eq_true rfl), (Nat.le_of_ble_eq_true rfl)⟩ d_M_place_90 (fun r16 σ15 hr16 h => ?_)
        refine v_if_eq cx 100 d_M_place_93 (by decide) (zR_b hr16) (fun c17 => ?_) (fun c17 => ?_)
        · replace h := h.1 c17
          refine v_iconst cx d_M_place_100 ?_
          exact rt _ _ _ _ _ _ (Nat.le_of_ble_eq_true rfl) (Nat.le_of_ble_eq_true rfl) d_M_place_101 ⟨by decide, by decide⟩ h
        · replace h := h.2 c17
          refine v_iconst cx d_M_place_96 ?_
          refine v_goto cx 101 d_M_place_97 (by decide) ?_
          exact rt _ _ _ _ _ _ (Nat.le_of_ble_eq_true rfl) (Nat.le_of_ble_eq_true rfl) d_M_place_101 ⟨by decide, by decide⟩ h
      replace h := h.2
      replace h := h ⟨c8, c11, c14⟩
      refine v_tableOut cx 102 d_M_place_40 hwhat (zto_M_place_40 c8 c11 c14) (by decide) ?_
      refine v_iconst cx d_M_place_102 ?_
      refine v_istore_n (lv' := [(0, .ref (ad 41)), (1, .int (zI place)), (2, .int (zI what)), (3, .int (zI 0))]) cx d_M_place_103 rfl (by decide) rfl rfl ?_
      refine v_iconst cx d_M_place_104 ?_
      refine v_istore (lv' := [(0, .ref (ad 41)), (1, .int (zI place)), (2, .int (zI what)), (3, .int (zI 0)), (4, .int (zI 0))]) cx d_M_place_105 (by decide) rfl rfl ?_
      refine v_sb (lv' := [(0, .ref (ad 41)), (1, .int (zI place)), (3, .int (zI 0)), (4, .int (zI 0))]) [0, 1, 3, 4] rfl ?_
      obtain ⟨I107, μ107, h0, h⟩ := h
      have L107 : ∀ (N107 : Nat) (y18 y19 : Int) (σ20 : zS), μ107 y18 y19 σ20 < N107 → I107 y18 y19 σ20 → zR y18 → zR y19 → zV Ω Γ rm_M_place 5 Q 0 0 zLy ad σ20 107 [(0, .ref (ad 41)), (1, .int (zI place)), (3, .int (zI y18)), (4, .int (zI y19))] [] := by
        intro N107
        induction N107 with
        | zero => intro y18 y19 σ20 hm; exact absurd hm (Nat.not_lt_zero _)
        | succ N107 ih107 =>
          intro y18 y19 σ20 hmm107 hI hy18 hy19
          replace h := h y18 y19 σ20 hI hy18 hy19
          refine v_iload cx 3 d_M_place_107 rfl ?_
          refine v_bipush cx (by decide) d_M_place_109 ?_
          refine v_icmp_ge cx 141 d_M_place_111 (by decide) hy19 ⟨by decide, by decide⟩ (fun c21 => ?_) (fun c21 => ?_)
          · replace h := h.1 c21
            refine v_iload_n cx 2 d_M_place_141 rfl rfl ?_
            exact rt _ _ _ _ _ _ (Nat.le_of_ble_eq_true rfl) (Nat.le_of_ble_eq_true rfl) d_M_place_142 hy18 h
          · replace h := h.2 c21
            refine v_iload_n cx 2 d_M_place_114 rfl rfl ?_
            refine v_aload_n cx 0 d_M_place_115 rfl rfl ?_
            refine v_iload_n cx 1 d_M_place_116 rfl rfl ?_
            refine v_iload cx 3 d_M_place_117 rfl ?_
            refine v_callVz0 (st := [.int (zI y18)]) cx (s_M_canStep hplace hy19 h) yk_M_canStep lk_M_149 zl_41 rfl rfl rfl (Nat.le_of_ble_eq_true rfl) ⟨Nat.le_of_ble_eq_true rfl, Nat.le_of_ble_eq_true rfl⟩ ⟨rfl, rfl⟩ ⟨(Nat.le_of_ble_eq_true rfl), (Nat.le_of_ble_eq_true rfl)⟩ d_M_place_119 (fun r23 σ22 hr23 h => ?_)
            refine v_if_eq cx 132 d_M_place_122 (by decide) (zR_b hr23) (fun c24 => ?_) (fun c24 => ?_)
            · replace h := h.1 c24
              refine v_iconst cx d_M_place_132 ?_
              refine v_ior cx d_M_place_133 ?_
              refine v_nm (fun x25 ex25 => ?_)
              replace h := h x25 ex25
              have hx25 : zR x25 := by rw [ex25]; exact (zR_or _ _)
              refine v_istore_n (lv' := [(0, .ref (ad 41)), (1, .int (zI place)), (3, .int (zI x25)), (4, .int (zI y19))]) cx d_M_place_134 rfl (by decide) rfl rfl ?_
              refine v_iinc (lv' := [(0, .ref (ad 41)), (1, .int (zI place)), (3, .int (zI x25)), (4, .int (zI (y19 + 1)))]) cx 3 d_M_place_135 rfl (by decide) rfl rfl ?_
              refine v_goto cx 107 d_M_place_138 (by decide) ?_
              obtain ⟨hI2, hz27, hm2⟩ := h
              exact ih107 _ _ _ (Nat.lt_of_lt_of_le hm2 (Nat.le_of_lt_succ hmm107)) hI2 hx25 hz27
            · replace h := h.2 c24
              refine v_iconst cx d_M_place_125 ?_
              refine v_iload cx 3 d_M_place_126 rfl ?_
              refine v_ishl cx d_M_place_128 ?_
              refine v_goto cx 133 d_M_place_129 (by decide) ?_
              refine v_ior cx d_M_place_133 ?_
              refine v_nm (fun x28 ex28 => ?_)
              replace h := h x28 ex28
              have hx28 : zR x28 := by rw [ex28]; exact (zR_or _ _)
              refine v_istore_n (lv' := [(0, .ref (ad 41)), (1, .int (zI place)), (3, .int (zI x28)), (4, .int (zI y19))]) cx d_M_place_134 rfl (by decide) rfl rfl ?_
              refine v_iinc (lv' := [(0, .ref (ad 41)), (1, .int (zI place)), (3, .int (zI x28)), (4, .int (zI (y19 + 1)))]) cx 3 d_M_place_135 rfl (by decide) rfl rfl ?_
              refine v_goto cx 107 d_M_place_138 (by decide) ?_
              obtain ⟨hI2, hz30, hm2⟩ := h
              exact ih107 _ _ _ (Nat.lt_of_lt_of_le hm2 (Nat.le_of_lt_succ hmm107)) hI2 hx28 hz30
      exact L107 _ _ _ _ (Nat.lt_succ_self _) h0 ⟨by decide, by decide⟩ ⟨by decide, by decide⟩
    · replace h := h.2 c7
      refine v_iconst cx d_M_place_37 ?_
      exact rt _ _ _ _ _ _ (Nat.le_of_ble_eq_true rfl) (Nat.le_of_ble_eq_true rfl) d_M_place_38 ⟨by decide, by decide⟩ h
  refine v_if_ne cx 13 d_M_place_6 (by decide) (zR_b hr2) (fun c31 => ?_) (fun c31 => ?_)
  · replace h := h.1 c31
    refine v_iload_n cx 2 d_M_place_13 rfl rfl ?_
    refine v_iconst cx d_M_place_14 ?_
    refine v_iconst cx d_M_place_15 ?_
    refine v_callSz0 (st := [.ref (ad 41)]) cx (s_M_isIn hwhat ⟨by decide, by decide⟩ ⟨by decide, by decide⟩ h) yk_M_isIn lk_M_94 rfl rfl (Nat.le_of_ble_eq_true rfl) ⟨Nat.le_of_ble_eq_true rfl, Nat.le_of_ble_eq_true rfl⟩ ⟨rfl, rfl⟩ ⟨(Nat.le_of_ble_eq_true rfl), (Nat.le_of_ble_eq_true rfl)⟩ d_M_place_16 (fun r33 σ32 hr33 h => ?_)
    refine v_if_ne cx 26 d_M_place_19 (by decide) (zR_b hr33) (fun c34 => ?_) (fun c34 => ?_)
    · replace h := h.1 c34
      refine v_iconst cx d_M_place_26 ?_
      have hJ2 := h
      exact G27 _ _ hJ2 ⟨by decide, by decide⟩
    · replace h := h.2 c34
      refine v_iconst cx d_M_place_22 ?_
      refine v_goto cx 27 d_M_place_23 (by decide) ?_
      have hJ2 := h
      exact G27 _ _ hJ2 ⟨by decide, by decide⟩
  · replace h := h.2 c31
    refine v_iconst cx d_M_place_9 ?_
    refine v_goto cx 27 d_M_place_10 (by decide) ?_
    have hJ2 := h
    exact G27 _ _ hJ2 ⟨by decide, by decide⟩
def q_M_term (what : Int) (K : Int → zS → Prop) (σ : zS) : Prop :=
  q_M_isIn what 0 10 (fun r2 σ1 =>
    ∃ J16 : Int → Prop, (∀ (w3 : Int), J16 w3 → zR w3 → 
      ∀ σ4 : zS, σ4 = zU σ1 41 0 w3 → ((σ4 41 0) ≤ 0 →
        (0 ≤ 2 + what ∧ 2 + what < 499) ∧ (K (σ4 42 (2 + what)) σ4)) ∧ (0 < (σ4 41 0) →
        K 0 σ4)) ∧
    ((r2 = 0 →
        J16 1) ∧ (r2 ≠ 0 →
        J16 0))) σ
abbrev rm_M_term : Room := { frames := 1, cells := 0, slots := 0, locals := 22 }
set_option maxRecDepth 20000 in
set_option maxHeartbeats 4000000 in
theorem s_M_term {Ω : zO} {ad : Nat → Nat} {what : Int} {K : Int → zS → Prop} {σ : zS} (hwhat : zR what) (h : q_M_term what K σ) : zMi Ω y_M_term (.code y_M_term c_M_term 2 (some .int)) rm_M_term zLy ad [.ref (ad 41), .int (zI what)] σ K := by
  refine z_ofi (lv := [(0, .ref (ad 41)), (1, .int (zI what))]) (by decide) rfl (Nat.le_of_ble_eq_true rfl) ?_
  intro Γ Q cx rt
  unfold q_M_term at h
  refine v_aload_n cx 0 d_M_term_0 rfl rfl ?_
  refine v_iload_n cx 1 d_M_term_1 rfl rfl ?_
  refine v_iconst cx d_M_term_2 ?_
  refine v_bipush cx (by decide) d_M_term_3 ?_
  refine v_callSz0 (st := [.ref (ad 41)]) cx (s_M_isIn hwhat ⟨by decide, by decide⟩ ⟨by decide, by decide⟩ h) yk_M_isIn lk_M_94 rfl rfl (Nat.le_of_ble_eq_true rfl) ⟨Nat.le_of_ble_eq_true rfl, Nat.le_of_ble_eq_true rfl⟩ ⟨rfl, rfl⟩ ⟨(Nat.le_of_ble_eq_true rfl), (Nat.le_of_ble_eq_true rfl)⟩ d_M_term_5 (fun r2 σ1 hr2 h => ?_)
  obtain ⟨J16, hJ16, h⟩ := h
  have G16 : ∀ (w3 : Int), J16 w3 → zR w3 → zV Ω Γ rm_M_term 2 Q 0 0 zLy ad σ1 16 [(0, .ref (ad 41)), (1, .int (zI what))] [.int (zI w3), .ref (ad 41)] := by
    intro w3 hJ hw3
    replace h := hJ16 w3 hJ hw3
    refine pf_M_87 cx hw3 d_M_term_16 ?_
    refine v_ns (fun σ4 eσ4 => ?_)
    replace h := h σ4 eσ4
    refine v_aload_n cx 0 d_M_term_19 rfl rfl ?_
    refine gf_M_87 cx d_M_term_20 (fun hl5 => ?_)
    refine v_if_le cx 30 d_M_term_23 (by decide) hl5 (fun c6 => ?_) (fun c6 => ?_)
    · replace h := h.1 c6
      refine v_aload_n cx 0 d_M_term_30 rfl rfl ?_
      refine gf_M_7 cx d_M_term_31 ?_
      refine v_iconst cx d_M_term_34 ?_
      refine v_iload_n cx 1 d_M_term_35 rfl rfl ?_
      refine v_iadd cx d_M_term_36 ?_
      obtain ⟨hb7, h⟩ := h
      refine v_iald cx zl_42 (by decide) hb7.1 hb7.2 d_M_term_37 (fun hl8 => ?_)
      exact rt _ _ _ _ _ _ (Nat.le_of_ble_eq_true rfl) (Nat.le_of_ble_eq_true rfl) d_M_term_38 hl8 h
    · replace h := h.2 c6
      refine v_iconst cx d_M_term_26 ?_
      refine v_goto cx 38 d_M_term_27 (by decide) ?_
      exact rt _ _ _ _ _ _ (Nat.le_of_ble_eq_true rfl) (Nat.le_of_ble_eq_true rfl) d_M_term_38 ⟨by decide, by decide⟩ h
  refine v_if_eq cx 15 d_M_term_8 (by decide) (zR_b hr2) (fun c9 => ?_) (fun c9 => ?_)
  · replace h := h.1 c9
    refine v_iconst cx d_M_term_15 ?_
    have hJ2 := h
    exact G16 _ hJ2 ⟨by decide, by decide⟩
  · replace h := h.2 c9
    refine v_iconst cx d_M_term_11 ?_
    refine v_goto cx 16 d_M_term_12 (by decide) ?_
    have hJ2 := h
    exact G16 _ hJ2 ⟨by decide, by decide⟩
def q_M_remembers (K : zS → Prop) (σ : zS) : Prop :=
  ((σ 41 3) ≠ 8 →
    ∃ (I52 : Int → zS → Prop) (μ52 : Int → zS → Nat), (I52 0 σ) ∧ ∀ (y3 : Int) (σ4 : zS), I52 y3 σ4 → zR y3 → 
    (499 ≤ y3 →
      zR ((σ4 41 3) + 1) ∧ (∀ σ8 : zS, σ8 = zU σ4 41 3 ((σ4 41 3) + 1) → K σ8)) ∧ (y3 < 499 →
      (0 ≤ y3 ∧ y3 < 499) ∧ ((0 ≤ (499 * (σ4 41 3)) + y3 ∧ (499 * (σ4 41 3)) + y3 < 3992) ∧ (∀ σ13 : zS, σ13 = zU σ4 43 ((499 * (σ4 41 3)) + y3) (σ4 42 y3) → I52 (y3 + 1) σ13 ∧ zR (y3 + 1) ∧ μ52 (y3 + 1) σ13 < μ52 y3 σ4)))) ∧ ((σ 41 3) = 8 →
    ∃ (I11 : Int → zS → Prop) (μ11 : Int → zS → Nat), (I11 0 σ) ∧ ∀ (y16 : Int) (σ17 : zS), I11 y16 σ17 → zR y16 → 
    (3493 ≤ y16 →
      zR ((σ17 41 3) - 1) ∧ (∀ σ21 : zS, σ21 = zU σ17 41 3 ((σ17 41 3) - 1) → ∃ (I52 : Int → zS → Prop) (μ52 : Int → zS → Nat), (I52 0 σ21) ∧ ∀ (y22 : Int) (σ23 : zS), I52 y22 σ23 → zR y22 → 
        (499 ≤ y22 →
          zR ((σ23 41 3) + 1) ∧ (∀ σ27 : zS, σ27 = zU σ23 41 3 ((σ23 41 3) + 1) → K σ27)) ∧ (y22 < 499 →
          (0 ≤ y22 ∧ y22 < 499) ∧ ((0 ≤ (499 * (σ23 41 3)) + y22 ∧ (499 * (σ23 41 3)) + y22 < 3992) ∧ (∀ σ32 : zS, σ32 = zU σ23 43 ((499 * (σ23 41 3)) + y22) (σ23 42 y22) → I52 (y22 + 1) σ32 ∧ zR (y22 + 1) ∧ μ52 (y22 + 1) σ32 < μ52 y22 σ23))))) ∧ (y16 < 3493 →
      (0 ≤ y16 + 499 ∧ y16 + 499 < 3992) ∧ ((0 ≤ y16 ∧ y16 < 3992) ∧ (∀ σ38 : zS, σ38 = zU σ17 43 y16 (σ17 43 (y16 + 499)) → I11 (y16 + 1) σ38 ∧ zR (y16 + 1) ∧ μ11 (y16 + 1) σ38 < μ11 y16 σ17))))
abbrev rm_M_remembers : Room := { frames := 0, cells := 0, slots := 0, locals := 0 }
set_option maxRecDepth 20000 in
set_option maxHeartbeats 4000000 in
theorem s_M_remembers {Ω : zO} {ad : Nat → Nat} {K : zS → Prop} {σ : zS}  (h : q_M_remembers K σ) : zMv Ω y_M_remembers (.code y_M_remembers c_M_remembers 2 none) rm_M_remembers zLy ad [.ref (ad 41)] σ K := by
  refine z_ofv (lv := [(0, .ref (ad 41))]) (by decide) rfl (Nat.le_of_ble_eq_true rfl) ?_
  intro Γ Q cx rt
  unfold q_M_remembers at h
  refine v_aload_n cx 0 d_M_remembers_0 rfl rfl ?_
  refine gf_M_293 cx d_M_remembers_1 (fun hl1 => ?_)
  refine v_bipush cx (by decide) d_M_remembers_4 ?_
  refine v_icmp_ne cx 50 d_M_remembers_6 (by decide) hl1 ⟨by decide, by decide⟩ (fun c2 => ?_) (fun c2 => ?_)
  · replace h := h.1 c2
    refine v_iconst cx d_M_remembers_50 ?_
    refine v_istore_n (lv' := [(0, .ref (ad 41)), (1, .int (zI 0))]) cx d_M_remembers_51 rfl (by decide) rfl rfl ?_
    obtain ⟨I52, μ52, h0, h⟩ := h
    have L52 : ∀ (N52 : Nat) (y3 : Int) (σ4 : zS), μ52 y3 σ4 < N52 → I52 y3 σ4 → zR y3 → zV Ω Γ rm_M_remembers 2 Q 0 0 zLy ad σ4 52 [(0, .ref (ad 41)), (1, .int (zI y3))] [] := by
      intro N52
      induction N52 with
      | zero => intro y3 σ4 hm; exact absurd hm (Nat.not_lt_zero _)
      | succ N52 ih52 =>
        intro y3 σ4 hmm52 hI hy3
        replace h := h y3 σ4 hI hy3
        refine v_iload_n cx 1 d_M_remembers_52 rfl rfl ?_
        refine v_sipush cx (by decide) d_M_remembers_53 ?_
        refine v_icmp_ge cx 86 d_M_remembers_56 (by decide) hy3 ⟨by decide, by decide⟩ (fun c5 => ?_) (fun c5 => ?_)
        · replace h := h.1 c5
          refine v_aload_n cx 0 d_M_remembers_86 rfl rfl ?_
          refine v_dup cx d_M_remembers_87 rfl ?_
          refine gf_M_293 cx d_M_remembers_88 (fun hl6 => ?_)
          refine v_iconst cx d_M_remembers_91 ?_
          refine v_iadd cx d_M_remembers_92 ?_
          obtain ⟨hr7, h⟩ := h
          refine pf_M_293 cx hr7 d_M_remembers_93 ?_
          refine v_ns (fun σ8 eσ8 => ?_)
          replace h := h σ8 eσ8
          exact rt _ _ _ _ _ (Nat.le_of_ble_eq_true rfl) (Nat.le_of_ble_eq_true rfl) d_M_remembers_96 h
        · replace h := h.2 c5
          refine v_aload_n cx 0 d_M_remembers_59 rfl rfl ?_
          refine gf_M_13 cx d_M_remembers_60 ?_
          refine v_sipush cx (by decide) d_M_remembers_63 ?_
          refine v_aload_n cx 0 d_M_remembers_66 rfl rfl ?_
          refine gf_M_293 cx d_M_remembers_67 (fun hl9 => ?_)
          refine v_imul cx d_M_remembers_70 ?_
          refine v_iload_n cx 1 d_M_remembers_71 rfl rfl ?_
          refine v_iadd cx d_M_remembers_72 ?_
          refine v_aload_n cx 0 d_M_remembers_73 rfl rfl ?_
          refine gf_M_7 cx d_M_remembers_74 ?_
          refine v_iload_n cx 1 d_M_remembers_77 rfl rfl ?_
          obtain ⟨hb10, h⟩ := h
          refine v_iald cx zl_42 (by decide) hb10.1 hb10.2 d_M_remembers_78 (fun hl11 => ?_)
          obtain ⟨hb12, h⟩ := h
          refine v_iast cx zl_43 (by decide) hb12.1 hb12.2 hl11 d_M_remembers_79 ?_
          refine v_ns (fun σ13 eσ13 => ?_)
          replace h := h σ13 eσ13
          refine v_iinc (lv' := [(0, .ref (ad 41)), (1, .int (zI (y3 + 1)))]) cx 1 d_M_remembers_80 rfl (by decide) rfl rfl ?_
          refine v_goto cx 52 d_M_remembers_83 (by decide) ?_
          obtain ⟨hI2, hz15, hm2⟩ := h
          exact ih52 _ _ (Nat.lt_of_lt_of_le hm2 (Nat.le_of_lt_succ hmm52)) hI2 hz15
    exact L52 _ _ _ (Nat.lt_succ_self _) h0 ⟨by decide, by decide⟩
  · replace h := h.2 c2
    refine v_iconst cx d_M_remembers_9 ?_
    refine v_istore_n (lv' := [(0, .ref (ad 41)), (1, .int (zI 0))]) cx d_M_remembers_10 rfl (by decide) rfl rfl ?_
    obtain ⟨I11, μ11, h0, h⟩ := h
    have L11 : ∀ (N11 : Nat) (y16 : Int) (σ17 : zS), μ11 y16 σ17 < N11 → I11 y16 σ17 → zR y16 → zV Ω Γ rm_M_remembers 2 Q 0 0 zLy ad σ17 11 [(0, .ref (ad 41)), (1, .int (zI y16))] [] := by
      intro N11
      induction N11 with
      | zero => intro y16 σ17 hm; exact absurd hm (Nat.not_lt_zero _)
      | succ N11 ih11 =>
        intro y16 σ17 hmm11 hI hy16
        replace h := h y16 σ17 hI hy16
        refine v_iload_n cx 1 d_M_remembers_11 rfl rfl ?_
        refine v_sipush cx (by decide) d_M_remembers_12 ?_
        refine v_icmp_ge cx 40 d_M_remembers_15 (by decide) hy16 ⟨by decide, by decide⟩ (fun c18 => ?_) (fun c18 => ?_)
        · replace h := h.1 c18
          refine v_aload_n cx 0 d_M_remembers_40 rfl rfl ?_
          refine v_dup cx d_M_remembers_41 rfl ?_
          refine gf_M_293 cx d_M_remembers_42 (fun hl19 => ?_)
          refine v_iconst cx d_M_remembers_45 ?_
          refine v_isub cx d_M_remembers_46 ?_
          obtain ⟨hr20, h⟩ := h
          refine pf_M_293 cx hr20 d_M_remembers_47 ?_
          refine v_ns (fun σ21 eσ21 => ?_)
          replace h := h σ21 eσ21
          refine v_iconst cx d_M_remembers_50 ?_
          refine v_istore_n (lv' := [(0, .ref (ad 41)), (1, .int (zI 0))]) cx d_M_remembers_51 rfl (by decide) rfl rfl ?_
          obtain ⟨I52, μ52, h0, h⟩ := h
          have L52 : ∀ (N52 : Nat) (y22 : Int) (σ23 : zS), μ52 y22 σ23 < N52 → I52 y22 σ23 → zR y22 → zV Ω Γ rm_M_remembers 2 Q 0 0 zLy ad σ23 52 [(0, .ref (ad 41)), (1, .int (zI y22))] [] := by
            intro N52
            induction N52 with
            | zero => intro y22 σ23 hm; exact absurd hm (Nat.not_lt_zero _)
            | succ N52 ih52 =>
              intro y22 σ23 hmm52 hI hy22
              replace h := h y22 σ23 hI hy22
              refine v_iload_n cx 1 d_M_remembers_52 rfl rfl ?_
              refine v_sipush cx (by decide) d_M_remembers_53 ?_
              refine v_icmp_ge cx 86 d_M_remembers_56 (by decide) hy22 ⟨by decide, by decide⟩ (fun c24 => ?_) (fun c24 => ?_)
              · replace h := h.1 c24
                refine v_aload_n cx 0 d_M_remembers_86 rfl rfl ?_
                refine v_dup cx d_M_remembers_87 rfl ?_
                refine gf_M_293 cx d_M_remembers_88 (fun hl25 => ?_)
                refine v_iconst cx d_M_remembers_91 ?_
                refine v_iadd cx d_M_remembers_92 ?_
                obtain ⟨hr26, h⟩ := h
                refine pf_M_293 cx hr26 d_M_remembers_93 ?_
                refine v_ns (fun σ27 eσ27 => ?_)
                replace h := h σ27 eσ27
                exact rt _ _ _ _ _ (Nat.le_of_ble_eq_true rfl) (Nat.le_of_ble_eq_true rfl) d_M_remembers_96 h
              · replace h := h.2 c24
                refine v_aload_n cx 0 d_M_remembers_59 rfl rfl ?_
                refine gf_M_13 cx d_M_remembers_60 ?_
                refine v_sipush cx (by decide) d_M_remembers_63 ?_
                refine v_aload_n cx 0 d_M_remembers_66 rfl rfl ?_
                refine gf_M_293 cx d_M_remembers_67 (fun hl28 => ?_)
                refine v_imul cx d_M_remembers_70 ?_
                refine v_iload_n cx 1 d_M_remembers_71 rfl rfl ?_
                refine v_iadd cx d_M_remembers_72 ?_
                refine v_aload_n cx 0 d_M_remembers_73 rfl rfl ?_
                refine gf_M_7 cx d_M_remembers_74 ?_
                refine v_iload_n cx 1 d_M_remembers_77 rfl rfl ?_
                obtain ⟨hb29, h⟩ := h
                refine v_iald cx zl_42 (by decide) hb29.1 hb29.2 d_M_remembers_78 (fun hl30 => ?_)
                obtain ⟨hb31, h⟩ := h
                refine v_iast cx zl_43 (by decide) hb31.1 hb31.2 hl30 d_M_remembers_79 ?_
                refine v_ns (fun σ32 eσ32 => ?_)
                replace h := h σ32 eσ32
                refine v_iinc (lv' := [(0, .ref (ad 41)), (1, .int (zI (y22 + 1)))]) cx 1 d_M_remembers_80 rfl (by decide) rfl rfl ?_
                refine v_goto cx 52 d_M_remembers_83 (by decide) ?_
                obtain ⟨hI2, hz34, hm2⟩ := h
                exact ih52 _ _ (Nat.lt_of_lt_of_le hm2 (Nat.le_of_lt_succ hmm52)) hI2 hz34
          exact L52 _ _ _ (Nat.lt_succ_self _) h0 ⟨by decide, by decide⟩
        · replace h := h.2 c18
          refine v_aload_n cx 0 d_M_remembers_18 rfl rfl ?_
          refine gf_M_13 cx d_M_remembers_19 ?_
          refine v_iload_n cx 1 d_M_remembers_22 rfl rfl ?_
          refine v_aload_n cx 0 d_M_remembers_23 rfl rfl ?_
          refine gf_M_13 cx d_M_remembers_24 ?_
          refine v_iload_n cx 1 d_M_remembers_27 rfl rfl ?_
          refine v_sipush cx (by decide) d_M_remembers_28 ?_
          refine v_iadd cx d_M_remembers_31 ?_
          obtain ⟨hb35, h⟩ := h
          refine v_iald cx zl_43 (by decide) hb35.1 hb35.2 d_M_remembers_32 (fun hl36 => ?_)
          obtain ⟨hb37, h⟩ := h
          refine v_iast cx zl_43 (by decide) hb37.1 hb37.2 hl36 d_M_remembers_33 ?_
          refine v_ns (fun σ38 eσ38 => ?_)
          replace h := h σ38 eσ38
          refine v_iinc (lv' := [(0, .ref (ad 41)), (1, .int (zI (y16 + 1)))]) cx 1 d_M_remembers_34 rfl (by decide) rfl rfl ?_
          refine v_goto cx 11 d_M_remembers_37 (by decide) ?_
          obtain ⟨hI2, hz40, hm2⟩ := h
          exact ih11 _ _ (Nat.lt_of_lt_of_le hm2 (Nat.le_of_lt_succ hmm11)) hI2 hz40
    exact L11 _ _ _ (Nat.lt_succ_self _) h0 ⟨by decide, by decide⟩
def q_M_tune (what : Int) (n_ : Int) (K : Int → zS → Prop) (σ : zS) : Prop :=
  q_M_isIn what 0 10 (fun r2 σ1 =>
    ∃ J16 : Int → Prop, (∀ (w3 : Int), J16 w3 → zR w3 → 
      ∀ σ4 : zS, σ4 = zU σ1 41 0 w3 → ((σ4 41 0) ≤ 0 →
        ∃ J39 : Int → Prop, (∀ (w7 : Int), J39 w7 → zR w7 → 
          (0 ≤ what ∧ what < 11) ∧ (q_M_isIn n_ w7 (σ4 46 what) (fun r11 σ10 =>
              ∃ J56 : Int → Prop, (∀ (w12 : Int), J56 w12 → zR w12 → 
                ∀ σ13 : zS, σ13 = zU σ10 41 0 w12 → ((σ13 41 0) ≤ 0 →
                  q_M_remembers (fun σ16 =>
                    (0 ≤ 2 + what ∧ 2 + what < 499) ∧ (∀ x19 : Int, x19 = σ16 42 (2 + what) → ∀ σ20 : zS, σ20 = zU σ16 42 (2 + what) n_ → K x19 σ20)) σ13) ∧ (0 < (σ13 41 0) →
                  K 0 σ13)) ∧
              ((r11 = 0 →
                  J56 2) ∧ (r11 ≠ 0 →
                  J56 0))) σ4)) ∧
        ((what ≠ 0 →
            J39 0) ∧ (what = 0 →
            J39 1))) ∧ (0 < (σ4 41 0) →
        K 0 σ4)) ∧
    ((r2 ≠ 0 →
        J16 0) ∧ (r2 = 0 →
        J16 1))) σ
abbrev rm_M_tune : Room := { frames := 1, cells := 0, slots := 0, locals := 22 }
set_option maxRecDepth 20000 in
set_option maxHeartbeats 4000000 in
theorem s_M_tune {Ω : zO} {ad : Nat → Nat} {what : Int} {n_ : Int} {K : Int → zS → Prop} {σ : zS} (hwhat : zR what) (hn_ : zR n_) (h : q_M_tune what n_ K σ) : zMi Ω y_M_tune (.code y_M_tune c_M_tune 4 (some .int)) rm_M_tune zLy ad [.ref (ad 41), .int (zI what), .int (zI n_)] σ K := by
  refine z_ofi (lv := [(0, .ref (ad 41)), (1, .int (zI what)), (2, .int (zI n_))]) (by decide) rfl (Nat.le_of_ble_eq_true rfl) ?_
  intro Γ Q cx rt
  unfold q_M_tune at h
  refine v_aload_n cx 0 d_M_tune_0 rfl rfl ?_
  refine v_iload_n cx 1 d_M_tune_1 rfl rfl ?_
  refine v_iconst cx d_M_tune_2 ?_
  refine v_bipush cx (by decide) d_M_tune_3 ?_
  refine v_callSz0 (st := [.ref (ad 41)]) cx (s_M_isIn hwhat ⟨by decide, by decide⟩ ⟨by decide, by decide⟩ h) yk_M_isIn lk_M_94 rfl rfl (Nat.le_of_ble_eq_true rfl) ⟨Nat.le_of_ble_eq_true rfl, Nat.le_of_ble_eq_true rfl⟩ ⟨rfl, rfl⟩ ⟨(Nat.le_of_ble_eq_true rfl), (Nat.le_of_ble_eq_true rfl)⟩ d_M_tune_5 (fun r2 σ1 hr2 h => ?_)
  obtain ⟨J16, hJ16, h⟩ := h
  have G16 : ∀ (w3 : Int), J16 w3 → zR w3 → zV Ω Γ rm_M_tune 4 Q 0 0 zLy ad σ1 16 [(0, .ref (ad 41)), (1, .int (zI what)), (2, .int (zI n_))] [.int (zI w3), .ref (ad 41)] := by
    intro w3 hJ hw3
    replace h := hJ16 w3 hJ hw3
    refine pf_M_87 cx hw3 d_M_tune_16 ?_
    refine v_ns (fun σ4 eσ4 => ?_)
    replace h := h σ4 eσ4
    refine v_aload_n cx 0 d_M_tune_19 rfl rfl ?_
    refine gf_M_87 cx d_M_tune_20 (fun hl5 => ?_)
    refine v_if_le cx 28 d_M_tune_23 (by decide) hl5 (fun c6 => ?_) (fun c6 => ?_)
    · replace h := h.1 c6
      refine v_aload_n cx 0 d_M_tune_28 rfl rfl ?_
      refine v_iload_n cx 2 d_M_tune_29 rfl rfl ?_
      refine v_iload_n cx 1 d_M_tune_30 rfl rfl ?_
      obtain ⟨J39, hJ39, h⟩ := h
      have G39 : ∀ (w7 : Int), J39 w7 → zR w7 → zV Ω Γ rm_M_tune 4 Q 0 0 zLy ad σ4 39 [(0, .ref (ad 41)), (1, .int (zI what)), (2, .int (zI n_))] [.int (zI w7), .int (zI n_), .ref (ad 41)] := by
        intro w7 hJ hw7
        replace h := hJ39 w7 hJ hw7
        refine v_aload_n cx 0 d_M_tune_39 rfl rfl ?_
        refine gf_M_22 cx d_M_tune_40 ?_
        refine v_iload_n cx 1 d_M_tune_43 rfl rfl ?_
        obtain ⟨hb8, h⟩ := h
        refine v_iald cx zl_46 (by decide) hb8.1 hb8.2 d_M_tune_44 (fun hl9 => ?_)
        refine v_callSz0 (st := [.ref (ad 41)]) cx (s_M_isIn hn_ hw7 hl9 h) yk_M_isIn lk_M_94 rfl rfl (Nat.le_of_ble_eq_true rfl) ⟨Nat.le_of_ble_eq_true rfl, Nat.le_of_ble_eq_true rfl⟩ ⟨rfl, rfl⟩ ⟨(Nat.le_of_ble_eq_true rfl), (Nat.le_of_ble_eq_true rfl)⟩ d_M_tune_45 (fun r11 σ10 hr11 h => ?_)
        obtain ⟨J56, hJ56, h⟩ := h
        have G56 : ∀ (w12 : Int), J56 w12 → zR w12 → zV Ω Γ rm_M_tune 4 Q 0 0 zLy ad σ10 56 [(0, .ref (ad 41)), (1, .int (zI what)), (2, .int (zI n_))] [.int (zI w12), .ref (ad 41)] := by
          intro w12 hJ hw12
          replace h := hJ56 w12 hJ hw12
          refine pf_M_87 cx hw12 d_M_tune_56 ?_
          refine v_ns (fun σ13 eσ13 => ?_)
          replace h := h σ13 eσ13
          refine v_aload_n cx 0 d_M_tune_59 rfl rfl ?_
          refine gf_M_87 cx d_M_tune_60 (fun hl14 => ?_)
          refine v_if_le cx 68 d_M_tune_63 (by decide) hl14 (fun c15 => ?_) (fun c15 => ?_)
          · replace h := h.1 c15
            refine v_aload_n cx 0 d_M_tune_68 rfl rfl ?_
            refine v_callVv0 (st := []) cx (s_M_remembers  h) yk_M_remembers lk_M_296 zl_41 rfl rfl rfl (Nat.le_of_ble_eq_true rfl) ⟨Nat.le_of_ble_eq_true rfl, Nat.le_of_ble_eq_true rfl⟩ ⟨rfl, rfl⟩ ⟨(Nat.le_of_ble_eq_true rfl), (Nat.le_of_ble_eq_true rfl)⟩ d_M_tune_69 (fun σ16 h => ?_)
            refine v_aload_n cx 0 d_M_tune_72 rfl rfl ?_
            refine gf_M_7 cx d_M_tune_73 ?_
            refine v_iconst cx d_M_tune_76 ?_
            refine v_iload_n cx 1 d_M_tune_77 rfl rfl ?_
            refine v_iadd cx d_M_tune_78 ?_
            obtain ⟨hb17, h⟩ := h
            refine v_iald cx zl_42 (by decide) hb17.1 hb17.2 d_M_tune_79 (fun hl18 => ?_)
            refine v_nm (fun x19 ex19 => ?_)
            replace h := h x19 ex19
            have hx19 : zR x19 := by rw [ex19]; exact hl18
            refine v_istore_n (lv' := [(0, .ref (ad 41)), (1, .int (zI what)), (2, .int (zI n_)), (3, .int (zI x19))]) cx d_M_tune_80 rfl (by decide) rfl rfl ?_
            refine v_aload_n cx 0 d_M_tune_81 rfl rfl ?_
            refine gf_M_7 cx d_M_tune_82 ?_
            refine v_iconst cx d_M_tune_85 ?_
            refine v_iload_n cx 1 d_M_tune_86 rfl rfl ?_
            refine v_iadd cx d_M_tune_87 ?_
            refine v_iload_n cx 2 d_M_tune_88 rfl rfl ?_
            refine v_iast cx zl_42 (by decide) hb17.1 hb17.2 hn_ d_M_tune_89 ?_
            refine v_ns (fun σ20 eσ20 => ?_)
            replace h := h σ20 eσ20
            refine v_iload_n cx 3 d_M_tune_90 rfl rfl ?_
            exact rt _ _ _ _ _ _ (Nat.le_of_ble_eq_true rfl) (Nat.le_of_ble_eq_true rfl) d_M_tune_91 hx19 h
          · replace h := h.2 c15
            refine v_iconst cx d_M_tune_66 ?_
            exact rt _ _ _ _ _ _ (Nat.le_of_ble_eq_true rfl) (Nat.le_of_ble_eq_true rfl) d_M_tune_67 ⟨by decide, by decide⟩ h
        refine v_if_eq cx 55 d_M_tune_48 (by decide) (zR_b hr11) (fun c21 => ?_) (fun c21 => ?_)
        · replace h := h.1 c21
          refine v_iconst cx d_M_tune_55 ?_
          have hJ2 := h
          exact G56 _ hJ2 ⟨by decide, by decide⟩
        · replace h := h.2 c21
          refine v_iconst cx d_M_tune_51 ?_
          refine v_goto cx 56 d_M_tune_52 (by decide) ?_
          have hJ2 := h
          exact G56 _ hJ2 ⟨by decide, by decide⟩
      refine v_if_ne cx 38 d_M_tune_31 (by decide) hwhat (fun c22 => ?_) (fun c22 => ?_)
      · replace h := h.1 c22
        refine v_iconst cx d_M_tune_38 ?_
        have hJ2 := h
        exact G39 _ hJ2 ⟨by decide, by decide⟩
      · replace h := h.2 c22
        refine v_iconst cx d_M_tune_34 ?_
        refine v_goto cx 39 d_M_tune_35 (by decide) ?_
        have hJ2 := h
        exact G39 _ hJ2 ⟨by decide, by decide⟩
    · replace h := h.2 c6
      refine v_iconst cx d_M_tune_26 ?_
      exact rt _ _ _ _ _ _ (Nat.le_of_ble_eq_true rfl) (Nat.le_of_ble_eq_true rfl) d_M_tune_27 ⟨by decide, by decide⟩ h
  refine v_if_ne cx 15 d_M_tune_8 (by decide) (zR_b hr2) (fun c23 => ?_) (fun c23 => ?_)
  · replace h := h.1 c23
    refine v_iconst cx d_M_tune_15 ?_
    have hJ2 := h
    exact G16 _ hJ2 ⟨by decide, by decide⟩
  · replace h := h.2 c23
    refine v_iconst cx d_M_tune_11 ?_
    refine v_goto cx 16 d_M_tune_12 (by decide) ?_
    have hJ2 := h
    exact G16 _ hJ2 ⟨by decide, by decide⟩
def q_M_raise (place : Int) (n_ : Int) (K : Int → zS → Prop) (σ : zS) : Prop :=
  q_M_isPlace place (fun r2 σ1 =>
    ∃ J14 : Int → Prop, (∀ (w3 : Int), J14 w3 → zR w3 → 
      ∀ σ4 : zS, σ4 = zU σ1 41 0 w3 → ((σ4 41 0) ≤ 0 →
        q_M_isIn n_ (-99) 99 (fun r8 σ7 =>
          ∃ J63 : Int → zS → Prop, (∀ (w9 : Int) (σ10 : zS), J63 w9 σ10 → zR w9 → 
            ∀ σ11 : zS, σ11 = zU σ10 41 0 w9 → ((σ11 41 0) ≤ 0 →
              q_M_remembers (fun σ14 =>
                (0 ≤ 13 + place ∧ 13 + place < 499) ∧ (zR ((σ14 42 (13 + place)) + n_) ∧ (∀ σ18 : zS, σ18 = zU σ14 42 (13 + place) ((σ14 42 (13 + place)) + n_) → K (σ18 42 (13 + place)) σ18))) σ11) ∧ (0 < (σ11 41 0) →
              K 0 σ11)) ∧
          (∃ J62 : zS → Prop, (∀ (σ20 : zS), J62 σ20 → 
              J63 2 σ20) ∧
            ((r8 = 0 →
                J62 σ7) ∧ (r8 ≠ 0 →
                (0 ≤ 13 + place ∧ 13 + place < 499) ∧ (zR ((σ7 42 (13 + place)) + n_) ∧ (q_M_isIn ((σ7 42 (13 + place)) + n_) 0 99 (fun r26 σ25 =>
                      (r26 = 0 →
                        J62 σ25) ∧ (r26 ≠ 0 →
                        J63 0 σ25)) σ7)))))) σ4) ∧ (0 < (σ4 41 0) →
        K 0 σ4)) ∧
    ((r2 = 0 →
        J14 1) ∧ (r2 ≠ 0 →
        J14 0))) σ
abbrev rm_M_raise : Room := { frames := 2, cells := 0, slots := 0, locals := 43 }
set_option maxRecDepth 20000 in
set_option maxHeartbeats 4000000 in
theorem s_M_raise {Ω : zO} {ad : Nat → Nat} {place : Int} {n_ : Int} {K : Int → zS → Prop} {σ : zS} (hplace : zR place) (hn_ : zR n_) (h : q_M_raise place n_ K σ) : zMi Ω y_M_raise (.code y_M_raise c_M_raise 3 (some .int)) rm_M_raise zLy ad [.ref (ad 41), .int (zI place), .int (zI n_)] σ K := by
  refine z_ofi (lv := [(0, .ref (ad 41)), (1, .int (zI place)), (2, .int (zI n_))]) (by decide) rfl (Nat.le_of_ble_eq_true rfl) ?_
  intro Γ Q cx rt
  unfold q_M_raise at h
  refine v_aload_n cx 0 d_M_raise_0 rfl rfl ?_
  refine v_aload_n cx 0 d_M_raise_1 rfl rfl ?_
  refine v_iload_n cx 1 d_M_raise_2 rfl rfl ?_
  refine v_callVz0 (st := [.ref (ad 41)]) cx (s_M_isPlace hplace h) yk_M_isPlace lk_M_203 zl_41 rfl rfl rfl (Nat.le_of_ble_eq_true rfl) ⟨Nat.le_of_ble_eq_true rfl, Nat.le_of_ble_eq_true rfl⟩ ⟨rfl, rfl⟩ ⟨(Nat.le_of_ble_eq_true rfl), (Nat.le_of_ble_eq_true rfl)⟩ d_M_raise_3 (fun r2 σ1 hr2 h => ?_)
  obtain ⟨J14, hJ14, h⟩ := h
  have G14 : ∀ (w3 : Int), J14 w3 → zR w3 → zV Ω Γ rm_M_raise 3 Q 0 0 zLy ad σ1 14 [(0, .ref (ad 41)), (1, .int (zI place)), (2, .int (zI n_))] [.int (zI w3), .ref (ad 41)] := by
    intro w3 hJ hw3
    replace h := hJ14 w3 hJ hw3
    refine pf_M_87 cx hw3 d_M_raise_14 ?_
    refine v_ns (fun σ4 eσ4 => ?_)
    replace h := h σ4 eσ4
    refine v_aload_n cx 0 d_M_raise_17 rfl rfl ?_
    refine gf_M_87 cx d_M_raise_18 (fun hl5 => ?_)
    refine v_if_le cx 26 d_M_raise_21 (by decide) hl5 (fun c6 => ?_) (fun c6 => ?_)
    · replace h := h.1 c6
      refine v_aload_n cx 0 d_M_raise_26 rfl rfl ?_
      refine v_iload_n cx 2 d_M_raise_27 rfl rfl ?_
      refine v_bipush cx (by decide) d_M_raise_28 ?_
      refine v_bipush cx (by decide) d_M_raise_30 ?_
      refine v_callSz0 (st := [.ref (ad 41)]) cx (s_M_isIn hn_ ⟨by decide, by decide⟩ ⟨by decide, by decide⟩ h) yk_M_isIn lk_M_94 rfl rfl (Nat.le_of_ble_eq_true rfl) ⟨Nat.le_of_ble_eq_true rfl, Nat.le_of_ble_eq_true rfl⟩ ⟨rfl, rfl⟩ ⟨(Nat.le_of_ble_eq_true rfl), (Nat.le_of_ble_eq_true rfl)⟩ d_M_raise_32 (fun r8 σ7 hr8 h => ?_)
      obtain ⟨J63, hJ63, h⟩ := h
      have G63 : ∀ (w9 : Int) (σ10 : zS), J63 w9 σ10 → zR w9 → zV Ω Γ rm_M_raise 3 Q 0 0 zLy ad σ10 63 [(0, .ref (ad 41)), (1, .int (zI place)), (2, .int (zI n_))] [.int (zI w9), .ref (ad 41)] := by
        intro w9 σ10 hJ hw9
        replace h := hJ63 w9 σ10 hJ hw9
        refine pf_M_87 cx hw9 d_M_raise_63 ?_
        refine v_ns (fun σ11 eσ11 => ?_)
        replace h := h σ11 eσ11
        refine v_aload_n cx 0 d_M_raise_66 rfl rfl ?_
        refine gf_M_87 cx d_M_raise_67 (fun hl12 => ?_)
        refine v_if_le cx 75 d_M_raise_70 (by decide) hl12 (fun c13 => ?_) (fun c13 => ?_)
        · replace h := h.1 c13
          refine v_aload_n cx 0 d_M_raise_75 rfl rfl ?_
          refine v_callVv0 (st := []) cx (s_M_remembers  h) yk_M_remembers lk_M_296 zl_41 rfl rfl rfl (Nat.le_of_ble_eq_true rfl) ⟨Nat.le_of_ble_eq_true rfl, Nat.le_of_ble_eq_true rfl⟩ ⟨rfl, rfl⟩ ⟨(Nat.le_of_ble_eq_true rfl), (Nat.le_of_ble_eq_true rfl)⟩ d_M_raise_76 (fun σ14 h => ?_)
          refine v_aload_n cx 0 d_M_raise_79 rfl rfl ?_
          refine gf_M_7 cx d_M_raise_80 ?_
          refine v_bipush cx (by decide) d_M_raise_83 ?_
          refine v_iload_n cx 1 d_M_raise_85 rfl rfl ?_
          refine v_iadd cx d_M_raise_86 ?_
          refine v_dup2 cx d_M_raise_87 rfl rfl ?_
          obtain ⟨hb15, h⟩ := h
          refine v_iald cx zl_42 (by decide) hb15.1 hb15.2 d_M_raise_88 (fun hl16 => ?_)
          refine v_iload_n cx 2 d_M_raise_89 rfl rfl ?_
          refine v_iadd cx d_M_raise_90 ?_
          obtain ⟨hr17, h⟩ := h
          refine v_iast cx zl_42 (by decide) hb15.1 hb15.2 hr17 d_M_raise_91 ?_
          refine v_ns (fun σ18 eσ18 => ?_)
          replace h := h σ18 eσ18
          refine v_aload_n cx 0 d_M_raise_92 rfl rfl ?_
          refine gf_M_7 cx d_M_raise_93 ?_
          refine v_bipush cx (by decide) d_M_raise_96 ?_
          refine v_iload_n cx 1 d_M_raise_98 rfl rfl ?_
          refine v_iadd cx d_M_raise_99 ?_
          refine v_iald cx zl_42 (by decide) hb15.1 hb15.2 d_M_raise_100 (fun hl19 => ?_)
          exact rt _ _ _ _ _ _ (Nat.le_of_ble_eq_true rfl) (Nat.le_of_ble_eq_true rfl) d_M_raise_101 hl19 h
        · replace h := h.2 c13
          refine v_iconst cx d_M_raise_73 ?_
          exact rt _ _ _ _ _ _ (Nat.le_of_ble_eq_true rfl) (Nat.le_of_ble_eq_true rfl) d_M_raise_74 ⟨by decide, by decide⟩ h
      obtain ⟨J62, hJ62, h⟩ := h
      have G62 : ∀ (σ20 : zS), J62 σ20 → zV Ω Γ rm_M_raise 3 Q 0 0 zLy ad σ20 62 [(0, .ref (ad 41)), (1, .int (zI place)), (2, .int (zI n_))] [.ref (ad 41)] := by
        intro σ20 hJ 
        replace h := hJ62 σ20 hJ 
        refine v_iconst cx d_M_raise_62 ?_
        have hJ2 := h
        exact G63 _ _ hJ2 ⟨by decide, by decide⟩
      refine v_if_eq cx 62 d_M_raise_35 (by decide) (zR_b hr8) (fun c21 => ?_) (fun c21 => ?_)
      · replace h := h.1 c21
        have hJ2 := h
        exact G62 _ hJ2 
      · replace h := h.2 c21
        refine v_aload_n cx 0 d_M_raise_38 rfl rfl ?_
        refine gf_M_7 cx d_M_raise_39 ?_
        refine v_bipush cx (by decide) d_M_raise_42 ?_
        refine v_iload_n cx 1 d_M_raise_44 rfl rfl ?_
        refine v_iadd cx d_M_raise_45 ?_
        obtain ⟨hb22, h⟩ := h
        refine v_iald cx zl_42 (by decide) hb22.1 hb22.2 d_M_raise_46 (fun hl23 => ?_)
        refine v_iload_n cx 2 d_M_raise_47 rfl rfl ?_
        refine v_iadd cx d_M_raise_48 ?_
        refine v_iconst cx d_M_raise_49 ?_
        refine v_bipush cx (by decide) d_M_raise_50 ?_
        obtain ⟨hr24, h⟩ := h
        refine v_callSz0 (st := [.ref (ad 41)]) cx (s_M_isIn hr24 ⟨by decide, by decide⟩ ⟨by decide, by decide⟩ h) yk_M_isIn lk_M_94 rfl rfl (Nat.le_of_ble_eq_true rfl) ⟨Nat.le_of_ble_eq_true rfl, Nat.le_of_ble_eq_true rfl⟩ ⟨rfl, rfl⟩ ⟨(Nat.le_of_ble_eq_true rfl), (Nat.le_of_ble_eq_true rfl)⟩ d_M_raise_52 (fun r26 σ25 hr26 h => ?_)
        refine v_if_eq cx 62 d_M_raise_55 (by decide) (zR_b hr26) (fun c27 => ?_) (fun c27 => ?_)
        · replace h := h.1 c27
          have hJ2 := h
          exact G62 _ hJ2 
        · replace h := h.2 c27
          refine v_iconst cx d_M_raise_58 ?_
          refine v_goto cx 63 d_M_raise_59 (by decide) ?_
          have hJ2 := h
          exact G63 _ _ hJ2 ⟨by decide, by decide⟩
    · replace h := h.2 c6
      refine v_iconst cx d_M_raise_24 ?_
      exact rt _ _ _ _ _ _ (Nat.le_of_ble_eq_true rfl) (Nat.le_of_ble_eq_true rfl) d_M_raise_25 ⟨by decide, by decide⟩ h
  refine v_if_eq cx 13 d_M_raise_6 (by decide) (zR_b hr2) (fun c28 => ?_) (fun c28 => ?_)
  · replace h := h.1 c28
    refine v_iconst cx d_M_raise_13 ?_
    have hJ2 := h
    exact G14 _ hJ2 ⟨by decide, by decide⟩
  · replace h := h.2 c28
    refine v_iconst cx d_M_raise_9 ?_
    refine v_goto cx 14 d_M_raise_10 (by decide) ?_
    have hJ2 := h
    exact G14 _ hJ2 ⟨by decide, by decide⟩
def q_M_flood (place : Int) (is_ : Int) (K : Int → zS → Prop) (σ : zS) : Prop :=
  q_M_isPlace place (fun r2 σ1 =>
    ∃ J14 : Int → Prop, (∀ (w3 : Int), J14 w3 → zR w3 → 
      ∀ σ4 : zS, σ4 = zU σ1 41 0 w3 → ((σ4 41 0) ≤ 0 →
        q_M_remembers (fun σ7 =>
          q_M_isWet place (fun r9 σ8 =>
            ∃ J53 : Int → Prop, (∀ (w10 : Int), J53 w10 → zR w10 → 
              (0 ≤ 94 + place ∧ 94 + place < 499) ∧ (∀ σ12 : zS, σ12 = zU σ8 42 (94 + place) w10 → (r9 = is_ →
                  K 0 σ12) ∧ (r9 ≠ is_ →
                  K 1 σ12))) ∧
            ((is_ = 0 →
                J53 0) ∧ (is_ ≠ 0 →
                J53 1))) σ7) σ4) ∧ (0 < (σ4 41 0) →
        K 0 σ4)) ∧
    ((r2 = 0 →
        J14 1) ∧ (r2 ≠ 0 →
        J14 0))) σ
abbrev rm_M_flood : Room := { frames := 2, cells := 0, slots := 0, locals := 43 }
set_option maxRecDepth 20000 in
set_option maxHeartbeats 4000000 in
theorem s_M_flood {Ω : zO} {ad : Nat → Nat} {place : Int} {is_ : Int} {K : Int → zS → Prop} {σ : zS} (hplace : zR place) (his_ : is_ = 0 ∨ is_ = 1) (h : q_M_flood place is_ K σ) : zMz Ω y_M_flood (.code y_M_flood c_M_flood 4 (some .boolean)) rm_M_flood zLy ad [.ref (ad 41), .int (zI place), .int (zI is_)] σ K := by
  refine z_ofz (lv := [(0, .ref (ad 41)), (1, .int (zI place)), (2, .int (zI is_))]) (by decide) rfl (Nat.le_of_ble_eq_true rfl) ?_
  intro Γ Q cx rt
  unfold q_M_flood at h
  refine v_aload_n cx 0 d_M_flood_0 rfl rfl ?_
  refine v_aload_n cx 0 d_M_flood_1 rfl rfl ?_
  refine v_iload_n cx 1 d_M_flood_2 rfl rfl ?_
  refine v_callVz0 (st := [.ref (ad 41)]) cx (s_M_isPlace hplace h) yk_M_isPlace lk_M_203 zl_41 rfl rfl rfl (Nat.le_of_ble_eq_true rfl) ⟨Nat.le_of_ble_eq_true rfl, Nat.le_of_ble_eq_true rfl⟩ ⟨rfl, rfl⟩ ⟨(Nat.le_of_ble_eq_true rfl), (Nat.le_of_ble_eq_true rfl)⟩ d_M_flood_3 (fun r2 σ1 hr2 h => ?_)
  obtain ⟨J14, hJ14, h⟩ := h
  have G14 : ∀ (w3 : Int), J14 w3 → zR w3 → zV Ω Γ rm_M_flood 4 Q 0 0 zLy ad σ1 14 [(0, .ref (ad 41)), (1, .int (zI place)), (2, .int (zI is_))] [.int (zI w3), .ref (ad 41)] := by
    intro w3 hJ hw3
    replace h := hJ14 w3 hJ hw3
    refine pf_M_87 cx hw3 d_M_flood_14 ?_
    refine v_ns (fun σ4 eσ4 => ?_)
    replace h := h σ4 eσ4
    refine v_aload_n cx 0 d_M_flood_17 rfl rfl ?_
    refine gf_M_87 cx d_M_flood_18 (fun hl5 => ?_)
    refine v_if_le cx 26 d_M_flood_21 (by decide) hl5 (fun c6 => ?_) (fun c6 => ?_)
    · replace h := h.1 c6
      refine v_aload_n cx 0 d_M_flood_26 rfl rfl ?_
      refine v_callVv0 (st := []) cx (s_M_remembers  h) yk_M_remembers lk_M_296 zl_41 rfl rfl rfl (Nat.le_of_ble_eq_true rfl) ⟨Nat.le_of_ble_eq_true rfl, Nat.le_of_ble_eq_true rfl⟩ ⟨rfl, rfl⟩ ⟨(Nat.le_of_ble_eq_true rfl), (Nat.le_of_ble_eq_true rfl)⟩ d_M_flood_27 (fun σ7 h => ?_)
      refine v_aload_n cx 0 d_M_flood_30 rfl rfl ?_
      refine v_iload_n cx 1 d_M_flood_31 rfl rfl ?_
      refine v_callVz0 (st := []) cx (s_M_isWet hplace h) yk_M_isWet lk_M_112 zl_41 rfl rfl rfl (Nat.le_of_ble_eq_true rfl) ⟨Nat.le_of_ble_eq_true rfl, Nat.le_of_ble_eq_true rfl⟩ ⟨rfl, rfl⟩ ⟨(Nat.le_of_ble_eq_true rfl), (Nat.le_of_ble_eq_true rfl)⟩ d_M_flood_32 (fun r9 σ8 hr9 h => ?_)
      refine v_istore_n (lv' := [(0, .ref (ad 41)), (1, .int (zI place)), (2, .int (zI is_)), (3, .int (zI r9))]) cx d_M_flood_35 rfl (by decide) rfl rfl ?_
      refine v_aload_n cx 0 d_M_flood_36 rfl rfl ?_
      refine gf_M_7 cx d_M_flood_37 ?_
      refine v_bipush cx (by decide) d_M_flood_40 ?_
      refine v_iload_n cx 1 d_M_flood_42 rfl rfl ?_
      refine v_iadd cx d_M_flood_43 ?_
      refine v_iload_n cx 2 d_M_flood_44 rfl rfl ?_
      obtain ⟨J53, hJ53, h⟩ := h
      have G53 : ∀ (w10 : Int), J53 w10 → zR w10 → zV Ω Γ rm_M_flood 4 Q 0 0 zLy ad σ8 53 [(2, .int (zI is_)), (3, .int (zI r9))] [.int (zI w10), .int (zI (94 + place)), .ref (ad 42)] := by
        intro w10 hJ hw10
        replace h := hJ53 w10 hJ hw10
        obtain ⟨hb11, h⟩ := h
        refine v_iast cx zl_42 (by decide) hb11.1 hb11.2 hw10 d_M_flood_53 ?_
        refine v_ns (fun σ12 eσ12 => ?_)
        replace h := h σ12 eσ12
        refine v_iload_n cx 1 d_M_flood_54 rfl rfl ?_
        refine v_iload_n cx 0 d_M_flood_55 rfl rfl ?_
        refine v_icmp_eq cx 63 d_M_flood_56 (by decide) (zR_b hr9) (zR_b his_) (fun c13 => ?_) (fun c13 => ?_)
        · replace h := h.1 c13
          refine v_iconst cx d_M_flood_63 ?_
          exact rt _ _ _ _ _ _ (Nat.le_of_ble_eq_true rfl) (Nat.le_of_ble_eq_true rfl) d_M_flood_64 (Or.inl rfl) h
        · replace h := h.2 c13
          refine v_iconst cx d_M_flood_59 ?_
          refine v_goto cx 64 d_M_flood_60 (by decide) ?_
          exact rt _ _ _ _ _ _ (Nat.le_of_ble_eq_true rfl) (Nat.le_of_ble_eq_true rfl) d_M_flood_64 (Or.inr rfl) h
      refine v_if_eq cx 52 d_M_flood_45 (by decide) (zR_b his_) (fun c14 => ?_) (fun c14 => ?_)
      · replace h := h.1 c14
        refine v_iconst cx d_M_flood_52 ?_
        refine v_sb (lv' := [(2, .int (zI is_)), (3, .int (zI r9))]) [2, 3] rfl ?_
        have hJ2 := h
        exact G53 _ hJ2 ⟨by decide, by decide⟩
      · replace h := h.2 c14
        refine v_iconst cx d_M_flood_48 ?_
        refine v_goto cx 53 d_M_flood_49 (by decide) ?_
        refine v_sb (lv' := [(2, .int (zI is_)), (3, .int (zI r9))]) [2, 3] rfl ?_
        have hJ2 := h
        exact G53 _ hJ2 ⟨by decide, by decide⟩
    · replace h := h.2 c6
      refine v_iconst cx d_M_flood_24 ?_
      exact rt _ _ _ _ _ _ (Nat.le_of_ble_eq_true rfl) (Nat.le_of_ble_eq_true rfl) d_M_flood_25 (Or.inl rfl) h
  refine v_if_eq cx 13 d_M_flood_6 (by decide) (zR_b hr2) (fun c15 => ?_) (fun c15 => ?_)
  · replace h := h.1 c15
    refine v_iconst cx d_M_flood_13 ?_
    have hJ2 := h
    exact G14 _ hJ2 ⟨by decide, by decide⟩
  · replace h := h.2 c15
    refine v_iconst cx d_M_flood_9 ?_
    refine v_goto cx 14 d_M_flood_10 (by decide) ?_
    have hJ2 := h
    exact G14 _ hJ2 ⟨by decide, by decide⟩
def q_M_offsetAt (r : Int) (k_ : Int) (K : Int → zS → Prop) (σ : zS) : Prop :=
  (0 ≤ ((175 + (81 * r)) + 41) + k_ ∧ ((175 + (81 * r)) + 41) + k_ < 499) ∧ (K (σ 42 (((175 + (81 * r)) + 41) + k_)) σ)
abbrev rm_M_offsetAt : Room := { frames := 0, cells := 0, slots := 0, locals := 0 }
set_option maxRecDepth 20000 in
set_option maxHeartbeats 4000000 in
theorem s_M_offsetAt {Ω : zO} {ad : Nat → Nat} {r : Int} {k_ : Int} {K : Int → zS → Prop} {σ : zS} (hr : zR r) (hk_ : zR k_) (h : q_M_offsetAt r k_ K σ) : zMi Ω y_M_offsetAt (.code y_M_offsetAt c_M_offsetAt 3 (some .int)) rm_M_offsetAt zLy ad [.ref (ad 41), .int (zI r), .int (zI k_)] σ K := by
  refine z_ofi (lv := [(0, .ref (ad 41)), (1, .int (zI r)), (2, .int (zI k_))]) (by decide) rfl (Nat.le_of_ble_eq_true rfl) ?_
  intro Γ Q cx rt
  unfold q_M_offsetAt at h
  refine v_aload_n cx 0 d_M_offsetAt_0 rfl rfl ?_
  refine gf_M_7 cx d_M_offsetAt_1 ?_
  refine v_sipush cx (by decide) d_M_offsetAt_4 ?_
  refine v_bipush cx (by decide) d_M_offsetAt_7 ?_
  refine v_iload_n cx 1 d_M_offsetAt_9 rfl rfl ?_
  refine v_imul cx d_M_offsetAt_10 ?_
  refine v_iadd cx d_M_offsetAt_11 ?_
  refine v_bipush cx (by decide) d_M_offsetAt_12 ?_
  refine v_iadd cx d_M_offsetAt_14 ?_
  refine v_iload_n cx 2 d_M_offsetAt_15 rfl rfl ?_
  refine v_iadd cx d_M_offsetAt_16 ?_
  obtain ⟨hb1, h⟩ := h
  refine v_iald cx zl_42 (by decide) hb1.1 hb1.2 d_M_offsetAt_17 (fun hl2 => ?_)
  exact rt _ _ _ _ _ _ (Nat.le_of_ble_eq_true rfl) (Nat.le_of_ble_eq_true rfl) d_M_offsetAt_18 hl2 h
def q_M_two (a : Int) (b : Int) (K : Int → zS → Prop) (σ : zS) : Prop :=
  q_M_isPlace a (fun r2 σ1 =>
    (r2 = 0 →
      K 1 σ1) ∧ (r2 ≠ 0 →
      q_M_isPlace b (fun r5 σ4 =>
        (r5 ≠ 0 →
          (a ≠ b →
            K 0 σ4) ∧ (a = b →
            K 2 σ4)) ∧ (r5 = 0 →
          K 1 σ4)) σ1)) σ
abbrev rm_M_two : Room := { frames := 2, cells := 0, slots := 0, locals := 43 }
set_option maxRecDepth 20000 in
set_option maxHeartbeats 4000000 in
theorem s_M_two {Ω : zO} {ad : Nat → Nat} {a : Int} {b : Int} {K : Int → zS → Prop} {σ : zS} (ha : zR a) (hb : zR b) (h : q_M_two a b K σ) : zMi Ω y_M_two (.code y_M_two c_M_two 3 (some .int)) rm_M_two zLy ad [.ref (ad 41), .int (zI a), .int (zI b)] σ K := by
  refine z_ofi (lv := [(0, .ref (ad 41)), (1, .int (zI a)), (2, .int (zI b))]) (by decide) rfl (Nat.le_of_ble_eq_true rfl) ?_
  intro Γ Q cx rt
  unfold q_M_two at h
  refine v_aload_n cx 0 d_M_two_0 rfl rfl ?_
  refine v_iload_n cx 1 d_M_two_1 rfl rfl ?_
  refine v_callVz0 (st := []) cx (s_M_isPlace ha h) yk_M_isPlace lk_M_203 zl_41 rfl rfl rfl (Nat.le_of_ble_eq_true rfl) ⟨Nat.le_of_ble_eq_true rfl, Nat.le_of_ble_eq_true rfl⟩ ⟨rfl, rfl⟩ ⟨(Nat.le_of_ble_eq_true rfl), (Nat.le_of_ble_eq_true rfl)⟩ d_M_two_2 (fun r2 σ1 hr2 h => ?_)
  refine v_if_eq cx 16 d_M_two_5 (by decide) (zR_b hr2) (fun c3 => ?_) (fun c3 => ?_)
  · replace h := h.1 c3
    refine v_iconst cx d_M_two_16 ?_
    refine v_goto cx 30 d_M_two_17 (by decide) ?_
    exact rt _ _ _ _ _ _ (Nat.le_of_ble_eq_true rfl) (Nat.le_of_ble_eq_true rfl) d_M_two_30 ⟨by decide, by decide⟩ h
  · replace h := h.2 c3
    refine v_aload_n cx 0 d_M_two_8 rfl rfl ?_
    refine v_iload_n cx 2 d_M_two_9 rfl rfl ?_
    refine v_callVz0 (st := []) cx (s_M_isPlace hb h) yk_M_isPlace lk_M_203 zl_41 rfl rfl rfl (Nat.le_of_ble_eq_true rfl) ⟨Nat.le_of_ble_eq_true rfl, Nat.le_of_ble_eq_true rfl⟩ ⟨rfl, rfl⟩ ⟨(Nat.le_of_ble_eq_true rfl), (Nat.le_of_ble_eq_true rfl)⟩ d_M_two_10 (fun r5 σ4 hr5 h => ?_)
    refine v_if_ne cx 20 d_M_two_13 (by decide) (zR_b hr5) (fun c6 => ?_) (fun c6 => ?_)
    · replace h := h.1 c6
      refine v_iload_n cx 1 d_M_two_20 rfl rfl ?_
      refine v_iload_n cx 2 d_M_two_21 rfl rfl ?_
      refine v_icmp_ne cx 29 d_M_two_22 (by decide) ha hb (fun c7 => ?_) (fun c7 => ?_)
      · replace h := h.1 c7
        refine v_iconst cx d_M_two_29 ?_
        exact rt _ _ _ _ _ _ (Nat.le_of_ble_eq_true rfl) (Nat.le_of_ble_eq_true rfl) d_M_two_30 ⟨by decide, by decide⟩ h
      · replace h := h.2 c7
        refine v_iconst cx d_M_two_25 ?_
        refine v_goto cx 30 d_M_two_26 (by decide) ?_
        exact rt _ _ _ _ _ _ (Nat.le_of_ble_eq_true rfl) (Nat.le_of_ble_eq_true rfl) d_M_two_30 ⟨by decide, by decide⟩ h
    · replace h := h.2 c6
      refine v_iconst cx d_M_two_16 ?_
      refine v_goto cx 30 d_M_two_17 (by decide) ?_
      exact rt _ _ _ _ _ _ (Nat.le_of_ble_eq_true rfl) (Nat.le_of_ble_eq_true rfl) d_M_two_30 ⟨by decide, by decide⟩ h
def q_M_build (road : Int) (from_ : Int) (to_ : Int) (K : Int → zS → Prop) (σ : zS) : Prop :=
  q_M_isRoad road (fun r2 σ1 =>
    ∃ J18 : Int → zS → Prop, (∀ (w3 : Int) (σ4 : zS), J18 w3 σ4 → zR w3 → 
      ∀ σ5 : zS, σ5 = zU σ4 41 0 w3 → ((σ5 41 0) ≤ 0 →
        q_M_isWay from_ to_ 0 (fun r9 σ8 =>
          ∃ J55 : Int → Prop, (∀ (w10 : Int), J55 w10 → zR w10 → 
            ∀ σ11 : zS, σ11 = zU σ8 41 0 w10 → ((σ11 41 0) ≤ 0 →
              q_M_remembers (fun σ14 =>
                ∀ x15 : Int, x15 = 175 + (81 * road) → ∃ (I84 : Int → zS → Prop) (μ84 : Int → zS → Nat), (I84 0 σ14) ∧ ∀ (y16 : Int) (σ17 : zS), I84 y16 σ17 → zR y16 → 
                (81 ≤ y16 →
                  (0 ≤ x15 ∧ x15 < 499) ∧ (∀ σ21 : zS, σ21 = zU σ17 42 x15 (σ17 41 20) → ∃ (I122 : Int → zS → Prop) (μ122 : Int → zS → Nat), (I122 0 σ21) ∧ ∀ (y22 : Int) (σ23 : zS), I122 y22 σ23 → zR y22 → 
                    ((σ23 41 20) ≤ y22 →
                      q_M_measure 0 (fun r27 σ26 =>
                        K r27 σ26) σ23) ∧ (y22 < (σ23 41 20) →
                      (0 ≤ y22 ∧ y22 < 700) ∧ ((0 ≤ (x15 + 1) + y22 ∧ (x15 + 1) + y22 < 499) ∧ (∀ σ31 : zS, σ31 = zU σ23 42 ((x15 + 1) + y22) (σ23 54 y22) → I122 (y22 + 1) σ31 ∧ zR (y22 + 1) ∧ μ122 (y22 + 1) σ31 < μ122 y22 σ23))))) ∧ (y16 < 81 →
                  (0 ≤ x15 + y16 ∧ x15 + y16 < 499) ∧ (∀ σ35 : zS, σ35 = zU σ17 42 (x15 + y16) 0 → I84 (y16 + 1) σ35 ∧ zR (y16 + 1) ∧ μ84 (y16 + 1) σ35 < μ84 y16 σ17))) σ11) ∧ (0 < (σ11 41 0) →
              K 0 σ11)) ∧
          (∃ J54 : Prop, (J54 →
              J55 3) ∧
            ((r9 = 0 →
                J54) ∧ (r9 ≠ 0 →
                (40 < (σ8 41 20) →
                  J54) ∧ ((σ8 41 20) ≤ 40 →
                  J55 0))))) σ5) ∧ (0 < (σ5 41 0) →
        K 0 σ5)) ∧
    ((r2 ≠ 0 →
        q_M_two from_ to_ (fun r43 σ42 =>
          J18 r43 σ42) σ1) ∧ (r2 = 0 →
        J18 1 σ1))) σ
abbrev rm_M_build : Room := { frames := 7, cells := 0, slots := 0, locals := 180 }
set_option maxRecDepth 20000 in
set_option maxHeartbeats 4000000 in
theorem s_M_build {Ω : zO} {ad : Nat → Nat} {road : Int} {from_ : Int} {to_ : Int} {K : Int → zS → Prop} {σ : zS} (hroad : zR road) (hfrom_ : zR from_) (hto_ : zR to_) (h : q_M_build road from_ to_ K σ) : zMi Ω y_M_build (.code y_M_build c_M_build 6 (some .int)) rm_M_build zLy ad [.ref (ad 41), .int (zI road), .int (zI from_), .int (zI to_)] σ K := by
  refine z_ofi (lv := [(0, .ref (ad 41)), (1, .int (zI road)), (2, .int (zI from_)), (3, .int (zI to_))]) (by decide) rfl (Nat.le_of_ble_eq_true rfl) ?_
  intro Γ Q cx rt
  unfold q_M_build at h
  refine v_aload_n cx 0 d_M_build_0 rfl rfl ?_
  refine v_iload_n cx 1 d_M_build_1 rfl rfl ?_
  refine v_callSz0 (st := [.ref (ad 41)]) cx (s_M_isRoad hroad h) yk_M_isRoad lk_M_209 rfl rfl (Nat.le_of_ble_eq_true rfl) ⟨Nat.le_of_ble_eq_true rfl, Nat.le_of_ble_eq_true rfl⟩ ⟨rfl, rfl⟩ ⟨(Nat.le_of_ble_eq_true rfl), (Nat.le_of_ble_eq_true rfl)⟩ d_M_build_2 (fun r2 σ1 hr2 h => ?_)
  obtain ⟨J18, hJ18, h⟩ := h
  have G18 : ∀ (w3 : Int) (σ4 : zS), J18 w3 σ4 → zR w3 → zV Ω Γ rm_M_build 6 Q 0 0 zLy ad σ4 18 [(0, .ref (ad 41)), (1, .int (zI road)), (2, .int (zI from_)), (3, .int (zI to_))] [.int (zI w3), .ref (ad 41)] := by
    intro w3 σ4 hJ hw3
    replace h := hJ18 w3 σ4 hJ hw3
    refine pf_M_87 cx hw3 d_M_build_18 ?_
    refine v_ns (fun σ5 eσ5 => ?_)
    replace h := h σ5 eσ5
    refine v_aload_n cx 0 d_M_build_21 rfl rfl ?_
    refine gf_M_87 cx d_M_build_22 (fun hl6 => ?_)
    refine v_if_le cx 30 d_M_build_25 (by decide) hl6 (fun c7 => ?_) (fun c7 => ?_)
    · replace h := h.1 c7
      refine v_aload_n cx 0 d_M_build_30 rfl rfl ?_
      refine v_aload_n cx 0 d_M_build_31 rfl rfl ?_
      refine v_iload_n cx 2 d_M_build_32 rfl rfl ?_
      refine v_iload_n cx 3 d_M_build_33 rfl rfl ?_
      refine v_iconst cx d_M_build_34 ?_
      refine v_callVz0 (st := [.ref (ad 41)]) cx (s_M_isWay hfrom_ hto_ ⟨by decide, by decide⟩ h) yk_M_isWay lk_M_302 zl_41 rfl rfl rfl (Nat.le_of_ble_eq_true rfl) ⟨Nat.le_of_ble_eq_true rfl, Nat.le_of_ble_eq_true rfl⟩ ⟨rfl, rfl⟩ ⟨(Nat.le_of_ble_eq_true rfl), (Nat.le_of_ble_eq_true rfl)⟩ d_M_build_35 (fun r9 σ8 hr9 h => ?_)
      obtain ⟨J55, hJ55, h⟩ := h
      have G55 : ∀ (w10 : Int), J55 w10 → zR w10 → zV Ω Γ rm_M_build 6 Q 0 0 zLy ad σ8 55 [(0, .ref (ad 41)), (1, .int (zI road))] [.int (zI w10), .ref (ad 41)] := by
        intro w10 hJ hw10
        replace h := hJ55 w10 hJ hw10
        refine pf_M_87 cx hw10 d_M_build_55 ?_
        refine v_ns (fun σ11 eσ11 => ?_)
        replace h := h σ11 eσ11
        refine v_aload_n cx 0 d_M_build_58 rfl rfl ?_
        refine gf_M_87 cx d_M_build_59 (fun hl12 => ?_)
        refine v_if_le cx 67 d_M_build_62 (by decide) hl12 (fun c13 => ?_) (fun c13 => ?_)
        · replace h := h.1 c13
          refine v_aload_n cx 0 d_M_build_67 rfl rfl ?_
          refine v_callVv0 (st := []) cx (s_M_remembers  h) yk_M_remembers lk_M_296 zl_41 rfl rfl rfl (Nat.le_of_ble_eq_true rfl) ⟨Nat.le_of_ble_eq_true rfl, Nat.le_of_ble_eq_true rfl⟩ ⟨rfl, rfl⟩ ⟨(Nat.le_of_ble_eq_true rfl), (Nat.le_of_ble_eq_true rfl)⟩ d_M_build_68 (fun σ14 h => ?_)
          refine v_sipush cx (by decide) d_M_build_71 ?_
          refine v_bipush cx (by decide) d_M_build_74 ?_
          refine v_iload_n cx 1 d_M_build_76 rfl rfl ?_
          refine v_imul cx d_M_build_77 ?_
          refine v_iadd cx d_M_build_78 ?_
          refine v_nm (fun x15 ex15 => ?_)
          replace h := h x15 ex15
          refine v_istore (lv' := [(0, .ref (ad 41)), (1, .int (zI road)), (4, .int (zI x15))]) cx d_M_build_79 (by decide) rfl rfl ?_
          refine v_iconst cx d_M_build_81 ?_
          refine v_istore (lv' := [(0, .ref (ad 41)), (1, .int (zI road)), (4, .int (zI x15)), (5, .int (zI 0))]) cx d_M_build_82 (by decide) rfl rfl ?_
          refine v_sb (lv' := [(0, .ref (ad 41)), (4, .int (zI x15)), (5, .int (zI 0))]) [0, 2, 3] rfl ?_
          obtain ⟨I84, μ84, h0, h⟩ := h
          have L84 : ∀ (N84 : Nat) (y16 : Int) (σ17 : zS), μ84 y16 σ17 < N84 → I84 y16 σ17 → zR y16 → zV Ω Γ rm_M_build 6 Q 0 0 zLy ad σ17 84 [(0, .ref (ad 41)), (4, .int (zI x15)), (5, .int (zI y16))] [] := by
            intro N84
            induction N84 with
            | zero => intro y16 σ17 hm; exact absurd hm (Nat.not_lt_zero _)
            | succ N84 ih84 =>
              intro y16 σ17 hmm84 hI hy16
              replace h := h y16 σ17 hI hy16
              refine v_iload cx 2 d_M_build_84 rfl ?_
              refine v_bipush cx (by decide) d_M_build_86 ?_
              refine v_icmp_ge cx 108 d_M_build_88 (by decide) hy16 ⟨by decide, by decide⟩ (fun c18 => ?_) (fun c18 => ?_)
              · replace h := h.1 c18
                refine v_aload_n cx 0 d_M_build_108 rfl rfl ?_
                refine gf_M_7 cx d_M_build_109 ?_
                refine v_iload cx 1 d_M_build_112 rfl ?_
                refine v_aload_n cx 0 d_M_build_114 rfl rfl ?_
                refine gf_M_172 cx d_M_build_115 (fun hl19 => ?_)
                obtain ⟨hb20, h⟩ := h
                refine v_iast cx zl_42 (by decide) hb20.1 hb20.2 hl19 d_M_build_118 ?_
                refine v_ns (fun σ21 eσ21 => ?_)
                replace h := h σ21 eσ21
                refine v_iconst cx d_M_build_119 ?_
                refine v_istore (lv' := [(0, .ref (ad 41)), (4, .int (zI x15)), (5, .int (zI 0))]) cx d_M_build_120 (by decide) rfl rfl ?_
                obtain ⟨I122, μ122, h0, h⟩ := h
                have L122 : ∀ (N122 : Nat) (y22 : Int) (σ23 : zS), μ122 y22 σ23 < N122 → I122 y22 σ23 → zR y22 → zV Ω Γ rm_M_build 6 Q 0 0 zLy ad σ23 122 [(0, .ref (ad 41)), (4, .int (zI x15)), (5, .int (zI y22))] [] := by
                  intro N122
                  induction N122 with
                  | zero => intro y22 σ23 hm; exact absurd hm (Nat.not_lt_zero _)
                  | succ N122 ih122 =>
                    intro y22 σ23 hmm122 hI hy22
                    replace h := h y22 σ23 hI hy22
                    refine v_iload cx 2 d_M_build_122 rfl ?_
                    refine v_aload_n cx 0 d_M_build_124 rfl rfl ?_
                    refine gf_M_172 cx d_M_build_125 (fun hl24 => ?_)
                    refine v_icmp_ge cx 156 d_M_build_128 (by decide) hy22 hl24 (fun c25 => ?_) (fun c25 => ?_)
                    · replace h := h.1 c25
                      refine v_aload_n cx 0 d_M_build_156 rfl rfl ?_
                      refine v_iconst cx d_M_build_157 ?_
                      refine v_callVi0 (st := []) cx (s_M_measure ⟨by decide, by decide⟩ h) yk_M_measure lk_M_305 zl_41 rfl rfl rfl (Nat.le_of_ble_eq_true rfl) ⟨Nat.le_of_ble_eq_true rfl, Nat.le_of_ble_eq_true rfl⟩ ⟨rfl, rfl⟩ ⟨(Nat.le_of_ble_eq_true rfl), (Nat.le_of_ble_eq_true rfl)⟩ d_M_build_158 (fun r27 σ26 hr27 h => ?_)
                      exact rt _ _ _ _ _ _ (Nat.le_of_ble_eq_true rfl) (Nat.le_of_ble_eq_true rfl) d_M_build_161 hr27 h
                    · replace h := h.2 c25
                      refine v_aload_n cx 0 d_M_build_131 rfl rfl ?_
                      refine gf_M_7 cx d_M_build_132 ?_
                      refine v_iload cx 1 d_M_build_135 rfl ?_
                      refine v_iconst cx d_M_build_137 ?_
                      refine v_iadd cx d_M_build_138 ?_
                      refine v_iload cx 2 d_M_build_139 rfl ?_
                      refine v_iadd cx d_M_build_141 ?_
                      refine v_aload_n cx 0 d_M_build_142 rfl rfl ?_
                      refine gf_M_50 cx d_M_build_143 ?_
                      refine v_iload cx 2 d_M_build_146 rfl ?_
                      obtain ⟨hb28, h⟩ := h
                      refine v_iald cx zl_54 (by decide) hb28.1 hb28.2 d_M_build_148 (fun hl29 => ?_)
                      obtain ⟨hb30, h⟩ := h
                      refine v_iast cx zl_42 (by decide) hb30.1 hb30.2 hl29 d_M_build_149 ?_
                      refine v_ns (fun σ31 eσ31 => ?_)
                      replace h := h σ31 eσ31
                      refine v_iinc (lv' := [(0, .ref (ad 41)), (4, .int (zI x15)), (5, .int (zI (y22 + 1)))]) cx 2 d_M_build_150 rfl (by decide) rfl rfl ?_
                      refine v_goto cx 122 d_M_build_153 (by decide) ?_
                      obtain ⟨hI2, hz33, hm2⟩ := h
                      exact ih122 _ _ (Nat.lt_of_lt_of_le hm2 (Nat.le_of_lt_succ hmm122)) hI2 hz33
                exact L122 _ _ _ (Nat.lt_succ_self _) h0 ⟨by decide, by decide⟩
              · replace h := h.2 c18
                refine v_aload_n cx 0 d_M_build_91 rfl rfl ?_
                refine gf_M_7 cx d_M_build_92 ?_
                refine v_iload cx 1 d_M_build_95 rfl ?_
                refine v_iload cx 2 d_M_build_97 rfl ?_
                refine v_iadd cx d_M_build_99 ?_
                refine v_iconst cx d_M_build_100 ?_
                obtain ⟨hb34, h⟩ := h
                refine v_iast cx zl_42 (by decide) hb34.1 hb34.2 ⟨by decide, by decide⟩ d_M_build_101 ?_
                refine v_ns (fun σ35 eσ35 => ?_)
                replace h := h σ35 eσ35
                refine v_iinc (lv' := [(0, .ref (ad 41)), (4, .int (zI x15)), (5, .int (zI (y16 + 1)))]) cx 2 d_M_build_102 rfl (by decide) rfl rfl ?_
                refine v_goto cx 84 d_M_build_105 (by decide) ?_
                obtain ⟨hI2, hz37, hm2⟩ := h
                exact ih84 _ _ (Nat.lt_of_lt_of_le hm2 (Nat.le_of_lt_succ hmm84)) hI2 hz37
          exact L84 _ _ _ (Nat.lt_succ_self _) h0 ⟨by decide, by decide⟩
        · replace h := h.2 c13
          refine v_iconst cx d_M_build_65 ?_
          exact rt _ _ _ _ _ _ (Nat.le_of_ble_eq_true rfl) (Nat.le_of_ble_eq_true rfl) d_M_build_66 ⟨by decide, by decide⟩ h
      obtain ⟨J54, hJ54, h⟩ := h
      have G54 : J54 → zV Ω Γ rm_M_build 6 Q 0 0 zLy ad σ8 54 [(0, .ref (ad 41)), (1, .int (zI road))] [.ref (ad 41)] := by
        intro hJ
        replace h := hJ54 hJ
        refine v_iconst cx d_M_build_54 ?_
        have hJ2 := h
        exact G55 _ hJ2 ⟨by decide, by decide⟩
      refine v_if_eq cx 54 d_M_build_38 (by decide) (zR_b hr9) (fun c38 => ?_) (fun c38 => ?_)
      · replace h := h.1 c38
        refine v_sb (lv' := [(0, .ref (ad 41)), (1, .int (zI road))]) [0, 1] rfl ?_
        have hJ2 := h
        exact G54 hJ2 
      · replace h := h.2 c38
        refine v_aload_n cx 0 d_M_build_41 rfl rfl ?_
        refine gf_M_172 cx d_M_build_42 (fun hl39 => ?_)
        refine v_bipush cx (by decide) d_M_build_45 ?_
        refine v_icmp_gt cx 54 d_M_build_47 (by decide) hl39 ⟨by decide, by decide⟩ (fun c40 => ?_) (fun c40 => ?_)
        · replace h := h.1 c40
          refine v_sb (lv' := [(0, .ref (ad 41)), (1, .int (zI road))]) [0, 1] rfl ?_
          have hJ2 := h
          exact G54 hJ2 
        · replace h := h.2 c40
          refine v_iconst cx d_M_build_50 ?_
          refine v_goto cx 55 d_M_build_51 (by decide) ?_
          refine v_sb (lv' := [(0, .ref (ad 41)), (1, .int (zI road))]) [0, 1] rfl ?_
          have hJ2 := h
          exact G55 _ hJ2 ⟨by decide, by decide⟩
    · replace h := h.2 c7
      refine v_iconst cx d_M_build_28 ?_
      exact rt _ _ _ _ _ _ (Nat.le_of_ble_eq_true rfl) (Nat.le_of_ble_eq_true rfl) d_M_build_29 ⟨by decide, by decide⟩ h
  refine v_if_ne cx 12 d_M_build_5 (by decide) (zR_b hr2) (fun c41 => ?_) (fun c41 => ?_)
  · replace h := h.1 c41
    refine v_aload_n cx 0 d_M_build_12 rfl rfl ?_
    refine v_iload_n cx 2 d_M_build_13 rfl rfl ?_
    refine v_iload_n cx 3 d_M_build_14 rfl rfl ?_
    refine v_callVi0 (st := [.ref (ad 41)]) cx (s_M_two hfrom_ hto_ h) yk_M_two lk_M_299 zl_41 rfl rfl rfl (Nat.le_of_ble_eq_true rfl) ⟨Nat.le_of_ble_eq_true rfl, Nat.le_of_ble_eq_true rfl⟩ ⟨rfl, rfl⟩ ⟨(Nat.le_of_ble_eq_true rfl), (Nat.le_of_ble_eq_true rfl)⟩ d_M_build_15 (fun r43 σ42 hr43 h => ?_)
    have hJ2 := h
    exact G18 _ _ hJ2 hr43
  · replace h := h.2 c41
    refine v_iconst cx d_M_build_8 ?_
    refine v_goto cx 18 d_M_build_9 (by decide) ?_
    have hJ2 := h
    exact G18 _ _ hJ2 ⟨by decide, by decide⟩
def q_M_drop (road : Int) (K : Int → zS → Prop) (σ : zS) : Prop :=
  q_M_isRoad road (fun r2 σ1 =>
    ∃ J25 : Int → zS → Prop, (∀ (w3 : Int) (σ4 : zS), J25 w3 σ4 → zR w3 → 
      ∀ σ5 : zS, σ5 = zU σ4 41 0 w3 → ((σ5 41 0) ≤ 0 →
        q_M_remembers (fun σ8 =>
          q_M_many road (fun r10 σ9 =>
            ∃ (I49 : Int → zS → Prop) (μ49 : Int → zS → Nat), (I49 0 σ9) ∧ ∀ (y11 : Int) (σ12 : zS), I49 y11 σ12 → zR y11 → 
            (81 ≤ y11 →
              K r10 σ12) ∧ (y11 < 81 →
              (0 ≤ (175 + (81 * road)) + y11 ∧ (175 + (81 * road)) + y11 < 499) ∧ (∀ σ15 : zS, σ15 = zU σ12 42 ((175 + (81 * road)) + y11) 0 → I49 (y11 + 1) σ15 ∧ zR (y11 + 1) ∧ μ49 (y11 + 1) σ15 < μ49 y11 σ12))) σ8) σ5) ∧ (0 < (σ5 41 0) →
        K 0 σ5)) ∧
    ((r2 ≠ 0 →
        q_M_many road (fun r20 σ19 =>
          (r20 ≠ 0 →
            J25 0 σ19) ∧ (r20 = 0 →
            J25 2 σ19)) σ1) ∧ (r2 = 0 →
        J25 1 σ1))) σ
abbrev rm_M_drop : Room := { frames := 2, cells := 0, slots := 0, locals := 42 }
set_option maxRecDepth 20000 in
set_option maxHeartbeats 4000000 in
theorem s_M_drop {Ω : zO} {ad : Nat → Nat} {road : Int} {K : Int → zS → Prop} {σ : zS} (hroad : zR road) (h : q_M_drop road K σ) : zMi Ω y_M_drop (.code y_M_drop c_M_drop 4 (some .int)) rm_M_drop zLy ad [.ref (ad 41), .int (zI road)] σ K := by
  refine z_ofi (lv := [(0, .ref (ad 41)), (1, .int (zI road))]) (by decide) rfl (Nat.le_of_ble_eq_true rfl) ?_
  intro Γ Q cx rt
  unfold q_M_drop at h
  refine v_aload_n cx 0 d_M_drop_0 rfl rfl ?_
  refine v_iload_n cx 1 d_M_drop_1 rfl rfl ?_
  refine v_callSz0 (st := [.ref (ad 41)]) cx (s_M_isRoad hroad h) yk_M_isRoad lk_M_209 rfl rfl (Nat.le_of_ble_eq_true rfl) ⟨Nat.le_of_ble_eq_true rfl, Nat.le_of_ble_eq_true rfl⟩ ⟨rfl, rfl⟩ ⟨(Nat.le_of_ble_eq_true rfl), (Nat.le_of_ble_eq_true rfl)⟩ d_M_drop_2 (fun r2 σ1 hr2 h => ?_)
  obtain ⟨J25, hJ25, h⟩ := h
  have G25 : ∀ (w3 : Int) (σ4 : zS), J25 w3 σ4 → zR w3 → zV Ω Γ rm_M_drop 4 Q 0 0 zLy ad σ4 25 [(0, .ref (ad 41)), (1, .int (zI road))] [.int (zI w3), .ref (ad 41)] := by
    intro w3 σ4 hJ hw3
    replace h := hJ25 w3 σ4 hJ hw3
    refine pf_M_87 cx hw3 d_M_drop_25 ?_
    refine v_ns (fun σ5 eσ5 => ?_)
    replace h := h σ5 eσ5
    refine v_aload_n cx 0 d_M_drop_28 rfl rfl ?_
    refine gf_M_87 cx d_M_drop_29 (fun hl6 => ?_)
    refine v_if_le cx 37 d_M_drop_32 (by decide) hl6 (fun c7 => ?_) (fun c7 => ?_)
    · replace h := h.1 c7
      refine v_aload_n cx 0 d_M_drop_37 rfl rfl ?_
      refine v_callVv0 (st := []) cx (s_M_remembers  h) yk_M_remembers lk_M_296 zl_41 rfl rfl rfl (Nat.le_of_ble_eq_true rfl) ⟨Nat.le_of_ble_eq_true rfl, Nat.le_of_ble_eq_true rfl⟩ ⟨rfl, rfl⟩ ⟨(Nat.le_of_ble_eq_true rfl), (Nat.le_of_ble_eq_true rfl)⟩ d_M_drop_38 (fun σ8 h => ?_)
      refine v_aload_n cx 0 d_M_drop_41 rfl rfl ?_
      refine v_iload_n cx 1 d_M_drop_42 rfl rfl ?_
      refine v_callVi0 (st := []) cx (s_M_many hroad h) yk_M_many lk_M_129 zl_41 rfl rfl rfl (Nat.le_of_ble_eq_true rfl) ⟨Nat.le_of_ble_eq_true rfl, Nat.le_of_ble_eq_true rfl⟩ ⟨rfl, rfl⟩ ⟨(Nat.le_of_ble_eq_true rfl), (Nat.le_of_ble_eq_true rfl)⟩ d_M_drop_43 (fun r10 σ9 hr10 h => ?_)
      refine v_istore_n (lv' := [(0, .ref (ad 41)), (1, .int (zI road)), (2, .int (zI r10))]) cx d_M_drop_46 rfl (by decide) rfl rfl ?_
      refine v_iconst cx d_M_drop_47 ?_
      refine v_istore_n (lv' := [(0, .ref (ad 41)), (1, .int (zI road)), (2, .int (zI r10)), (3, .int (zI 0))]) cx d_M_drop_48 rfl (by decide) rfl rfl ?_
      obtain ⟨I49, μ49, h0, h⟩ := h
      have L49 : ∀ (N49 : Nat) (y11 : Int) (σ12 : zS), μ49 y11 σ12 < N49 → I49 y11 σ12 → zR y11 → zV Ω Γ rm_M_drop 4 Q 0 0 zLy ad σ12 49 [(0, .ref (ad 41)), (1, .int (zI road)), (2, .int (zI r10)), (3, .int (zI y11))] [] := by
        intro N49
        induction N49 with
        | zero => intro y11 σ12 hm; exact absurd hm (Nat.not_lt_zero _)
        | succ N49 ih49 =>
          intro y11 σ12 hmm49 hI hy11
          replace h := h y11 σ12 hI hy11
          refine v_iload_n cx 3 d_M_drop_49 rfl rfl ?_
          refine v_bipush cx (by decide) d_M_drop_50 ?_
          refine v_icmp_ge cx 77 d_M_drop_52 (by decide) hy11 ⟨by decide, by decide⟩ (fun c13 => ?_) (fun c13 => ?_)
          · replace h := h.1 c13
            refine v_iload_n cx 2 d_M_drop_77 rfl rfl ?_
            exact rt _ _ _ _ _ _ (Nat.le_of_ble_eq_true rfl) (Nat.le_of_ble_eq_true rfl) d_M_drop_78 hr10 h
          · replace h := h.2 c13
            refine v_aload_n cx 0 d_M_drop_55 rfl rfl ?_
            refine gf_M_7 cx d_M_drop_56 ?_
            refine v_sipush cx (by decide) d_M_drop_59 ?_
            refine v_bipush cx (by decide) d_M_drop_62 ?_
            refine v_iload_n cx 1 d_M_drop_64 rfl rfl ?_
            refine v_imul cx d_M_drop_65 ?_
            refine v_iadd cx d_M_drop_66 ?_
            refine v_iload_n cx 3 d_M_drop_67 rfl rfl ?_
            refine v_iadd cx d_M_drop_68 ?_
            refine v_iconst cx d_M_drop_69 ?_
            obtain ⟨hb14, h⟩ := h
            refine v_iast cx zl_42 (by decide) hb14.1 hb14.2 ⟨by decide, by decide⟩ d_M_drop_70 ?_
            refine v_ns (fun σ15 eσ15 => ?_)
            replace h := h σ15 eσ15
            refine v_iinc (lv' := [(0, .ref (ad 41)), (1, .int (zI road)), (2, .int (zI r10)), (3, .int (zI (y11 + 1)))]) cx 3 d_M_drop_71 rfl (by decide) rfl rfl ?_
            refine v_goto cx 49 d_M_drop_74 (by decide) ?_
            obtain ⟨hI2, hz17, hm2⟩ := h
            exact ih49 _ _ (Nat.lt_of_lt_of_le hm2 (Nat.le_of_lt_succ hmm49)) hI2 hz17
      exact L49 _ _ _ (Nat.lt_succ_self _) h0 ⟨by decide, by decide⟩
    · replace h := h.2 c7
      refine v_iconst cx d_M_drop_35 ?_
      exact rt _ _ _ _ _ _ (Nat.le_of_ble_eq_true rfl) (Nat.le_of_ble_eq_true rfl) d_M_drop_36 ⟨by decide, by decide⟩ h
  refine v_if_ne cx 12 d_M_drop_5 (by decide) (zR_b hr2) (fun c18 => ?_) (fun c18 => ?_)
  · replace h := h.1 c18
    refine v_aload_n cx 0 d_M_drop_12 rfl rfl ?_
    refine v_iload_n cx 1 d_M_drop_13 rfl rfl ?_
    refine v_callVi0 (st := [.ref (ad 41)]) cx (s_M_many hroad h) yk_M_many lk_M_129 zl_41 rfl rfl rfl (Nat.le_of_ble_eq_true rfl) ⟨Nat.le_of_ble_eq_true rfl, Nat.le_of_ble_eq_true rfl⟩ ⟨rfl, rfl⟩ ⟨(Nat.le_of_ble_eq_true rfl), (Nat.le_of_ble_eq_true rfl)⟩ d_M_drop_14 (fun r20 σ19 hr20 h => ?_)
    refine v_if_ne cx 24 d_M_drop_17 (by decide) hr20 (fun c21 => ?_) (fun c21 => ?_)
    · replace h := h.1 c21
      refine v_iconst cx d_M_drop_24 ?_
      have hJ2 := h
      exact G25 _ _ hJ2 ⟨by decide, by decide⟩
    · replace h := h.2 c21
      refine v_iconst cx d_M_drop_20 ?_
      refine v_goto cx 25 d_M_drop_21 (by decide) ?_
      have hJ2 := h
      exact G25 _ _ hJ2 ⟨by decide, by decide⟩
  · replace h := h.2 c18
    refine v_iconst cx d_M_drop_8 ?_
    refine v_goto cx 25 d_M_drop_9 (by decide) ?_
    have hJ2 := h
    exact G25 _ _ hJ2 ⟨by decide, by decide⟩
def q_M_undo (K : Int → zS → Prop) (σ : zS) : Prop :=
  ∃ J13 : Int → Prop, (∀ (w2 : Int), J13 w2 → zR w2 → 
    ∀ σ3 : zS, σ3 = zU σ 41 0 w2 → ((σ3 41 0) ≤ 0 →
      zR ((σ3 41 3) - 1) ∧ (∀ σ8 : zS, σ8 = zU σ3 41 3 ((σ3 41 3) - 1) → ∃ (I37 : Int → zS → Prop) (μ37 : Int → zS → Nat), (I37 0 σ8) ∧ ∀ (y9 : Int) (σ10 : zS), I37 y9 σ10 → zR y9 → 
        (499 ≤ y9 →
          K (σ10 41 3) σ10) ∧ (y9 < 499 →
          (0 ≤ (499 * (σ10 41 3)) + y9 ∧ (499 * (σ10 41 3)) + y9 < 3992) ∧ ((0 ≤ y9 ∧ y9 < 499) ∧ (∀ σ17 : zS, σ17 = zU σ10 42 y9 (σ10 43 ((499 * (σ10 41 3)) + y9)) → I37 (y9 + 1) σ17 ∧ zR (y9 + 1) ∧ μ37 (y9 + 1) σ17 < μ37 y9 σ10))))) ∧ (0 < (σ3 41 0) →
      K 0 σ3)) ∧
  (((σ 41 3) ≠ 0 →
      J13 0) ∧ ((σ 41 3) = 0 →
      J13 1))
abbrev rm_M_undo : Room := { frames := 0, cells := 0, slots := 0, locals := 0 }
set_option maxRecDepth 20000 in
set_option maxHeartbeats 4000000 in
theorem s_M_undo {Ω : zO} {ad : Nat → Nat} {K : Int → zS → Prop} {σ : zS}  (h : q_M_undo K σ) : zMi Ω y_M_undo (.code y_M_undo c_M_undo 2 (some .int)) rm_M_undo zLy ad [.ref (ad 41)] σ K := by
  refine z_ofi (lv := [(0, .ref (ad 41))]) (by decide) rfl (Nat.le_of_ble_eq_true rfl) ?_
  intro Γ Q cx rt
  unfold q_M_undo at h
  refine v_aload_n cx 0 d_M_undo_0 rfl rfl ?_
  refine v_aload_n cx 0 d_M_undo_1 rfl rfl ?_
  refine gf_M_293 cx d_M_undo_2 (fun hl1 => ?_)
  obtain ⟨J13, hJ13, h⟩ := h
  have G13 : ∀ (w2 : Int), J13 w2 → zR w2 → zV Ω Γ rm_M_undo 2 Q 0 0 zLy ad σ 13 [(0, .ref (ad 41))] [.int (zI w2), .ref (ad 41)] := by
    intro w2 hJ hw2
    replace h := hJ13 w2 hJ hw2
    refine pf_M_87 cx hw2 d_M_undo_13 ?_
    refine v_ns (fun σ3 eσ3 => ?_)
    replace h := h σ3 eσ3
    refine v_aload_n cx 0 d_M_undo_16 rfl rfl ?_
    refine gf_M_87 cx d_M_undo_17 (fun hl4 => ?_)
    refine v_if_le cx 25 d_M_undo_20 (by decide) hl4 (fun c5 => ?_) (fun c5 => ?_)
    · replace h := h.1 c5
      refine v_aload_n cx 0 d_M_undo_25 rfl rfl ?_
      refine v_dup cx d_M_undo_26 rfl ?_
      refine gf_M_293 cx d_M_undo_27 (fun hl6 => ?_)
      refine v_iconst cx d_M_undo_30 ?_
      refine v_isub cx d_M_undo_31 ?_
      obtain ⟨hr7, h⟩ := h
      refine pf_M_293 cx hr7 d_M_undo_32 ?_
      refine v_ns (fun σ8 eσ8 => ?_)
      replace h := h σ8 eσ8
      refine v_iconst cx d_M_undo_35 ?_
      refine v_istore_n (lv' := [(0, .ref (ad 41)), (1, .int (zI 0))]) cx d_M_undo_36 rfl (by decide) rfl rfl ?_
      obtain ⟨I37, μ37, h0, h⟩ := h
      have L37 : ∀ (N37 : Nat) (y9 : Int) (σ10 : zS), μ37 y9 σ10 < N37 → I37 y9 σ10 → zR y9 → zV Ω Γ rm_M_undo 2 Q 0 0 zLy ad σ10 37 [(0, .ref (ad 41)), (1, .int (zI y9))] [] := by
        intro N37
        induction N37 with
        | zero => intro y9 σ10 hm; exact absurd hm (Nat.not_lt_zero _)
        | succ N37 ih37 =>
          intro y9 σ10 hmm37 hI hy9
          replace h := h y9 σ10 hI hy9
          refine v_iload_n cx 1 d_M_undo_37 rfl rfl ?_
          refine v_sipush cx (by decide) d_M_undo_38 ?_
          refine v_icmp_ge cx 71 d_M_undo_41 (by decide) hy9 ⟨by decide, by decide⟩ (fun c11 => ?_) (fun c11 => ?_)
          · replace h := h.1 c11
            refine v_aload_n cx 0 d_M_undo_71 rfl rfl ?_
            refine gf_M_293 cx d_M_undo_72 (fun hl12 => ?_)
            exact rt _ _ _ _ _ _ (Nat.le_of_ble_eq_true rfl) (Nat.le_of_ble_eq_true rfl) d_M_undo_75 hl12 h
          · replace h := h.2 c11
            refine v_aload_n cx 0 d_M_undo_44 rfl rfl ?_
            refine gf_M_7 cx d_M_undo_45 ?_
            refine v_iload_n cx 1 d_M_undo_48 rfl rfl ?_
            refine v_aload_n cx 0 d_M_undo_49 rfl rfl ?_
            refine gf_M_13 cx d_M_undo_50 ?_
            refine v_sipush cx (by decide) d_M_undo_53 ?_
            refine v_aload_n cx 0 d_M_undo_56 rfl rfl ?_
            refine gf_M_293 cx d_M_undo_57 (fun hl13 => ?_)
            refine v_imul cx d_M_undo_60 ?_
            refine v_iload_n cx 1 d_M_undo_61 rfl rfl ?_
            refine v_iadd cx d_M_undo_62 ?_
            obtain ⟨hb14, h⟩ := h
            refine v_iald cx zl_43 (by decide) hb14.1 hb14.2 d_M_undo_63 (fun hl15 => ?_)
            obtain ⟨hb16, h⟩ := h
            refine v_iast cx zl_42 (by decide) hb16.1 hb16.2 hl15 d_M_undo_64 ?_
            refine v_ns (fun σ17 eσ17 => ?_)
            replace h := h σ17 eσ17
            refine v_iinc (lv' := [(0, .ref (ad 41)), (1, .int (zI (y9 + 1)))]) cx 1 d_M_undo_65 rfl (by decide) rfl rfl ?_
            refine v_goto cx 37 d_M_undo_68 (by decide) ?_
            obtain ⟨hI2, hz19, hm2⟩ := h
            exact ih37 _ _ (Nat.lt_of_lt_of_le hm2 (Nat.le_of_lt_succ hmm37)) hI2 hz19
      exact L37 _ _ _ (Nat.lt_succ_self _) h0 ⟨by decide, by decide⟩
    · replace h := h.2 c5
      refine v_iconst cx d_M_undo_23 ?_
      exact rt _ _ _ _ _ _ (Nat.le_of_ble_eq_true rfl) (Nat.le_of_ble_eq_true rfl) d_M_undo_24 ⟨by decide, by decide⟩ h
  refine v_if_ne cx 12 d_M_undo_5 (by decide) hl1 (fun c20 => ?_) (fun c20 => ?_)
  · replace h := h.1 c20
    refine v_iconst cx d_M_undo_12 ?_
    have hJ2 := h
    exact G13 _ hJ2 ⟨by decide, by decide⟩
  · replace h := h.2 c20
    refine v_iconst cx d_M_undo_8 ?_
    refine v_goto cx 13 d_M_undo_9 (by decide) ?_
    have hJ2 := h
    exact G13 _ hJ2 ⟨by decide, by decide⟩
def q_M_earthOf (offset : Int) (K : Int → zS → Prop) (σ : zS) : Prop :=
  (0 ≤ offset →
    zR (offset * (σ 42 11)) ∧ (K (offset * (σ 42 11)) σ)) ∧ (offset < 0 →
    zR ((-offset) * (σ 42 10)) ∧ (K ((-offset) * (σ 42 10)) σ))
abbrev rm_M_earthOf : Room := { frames := 0, cells := 0, slots := 0, locals := 0 }
set_option maxRecDepth 20000 in
set_option maxHeartbeats 4000000 in
theorem s_M_earthOf {Ω : zO} {ad : Nat → Nat} {offset : Int} {K : Int → zS → Prop} {σ : zS} (hoffset : zR offset) (h : q_M_earthOf offset K σ) : zMi Ω y_M_earthOf (.code y_M_earthOf c_M_earthOf 2 (some .int)) rm_M_earthOf zLy ad [.ref (ad 41), .int (zI offset)] σ K := by
  refine z_ofi (lv := [(0, .ref (ad 41)), (1, .int (zI offset))]) (by decide) rfl (Nat.le_of_ble_eq_true rfl) ?_
  intro Γ Q cx rt
  unfold q_M_earthOf at h
  refine v_iload_n cx 1 d_M_earthOf_0 rfl rfl ?_
  refine v_if_ge cx 17 d_M_earthOf_1 (by decide) hoffset (fun c1 => ?_) (fun c1 => ?_)
  · replace h := h.1 c1
    refine v_iload_n cx 1 d_M_earthOf_17 rfl rfl ?_
    refine v_aload_n cx 0 d_M_earthOf_18 rfl rfl ?_
    refine gf_M_7 cx d_M_earthOf_19 ?_
    refine v_bipush cx (by decide) d_M_earthOf_22 ?_
    refine v_iald cx zl_42 (by decide) (by decide) (by decide) d_M_earthOf_24 (fun hl2 => ?_)
    refine v_imul cx d_M_earthOf_25 ?_
    obtain ⟨hr3, h⟩ := h
    exact rt _ _ _ _ _ _ (Nat.le_of_ble_eq_true rfl) (Nat.le_of_ble_eq_true rfl) d_M_earthOf_26 hr3 h
  · replace h := h.2 c1
    refine v_iload_n cx 1 d_M_earthOf_4 rfl rfl ?_
    refine v_ineg cx d_M_earthOf_5 ?_
    refine v_aload_n cx 0 d_M_earthOf_6 rfl rfl ?_
    refine gf_M_7 cx d_M_earthOf_7 ?_
    refine v_bipush cx (by decide) d_M_earthOf_10 ?_
    refine v_iald cx zl_42 (by decide) (by decide) (by decide) d_M_earthOf_12 (fun hl4 => ?_)
    refine v_imul cx d_M_earthOf_13 ?_
    refine v_goto cx 26 d_M_earthOf_14 (by decide) ?_
    obtain ⟨hr5, h⟩ := h
    exact rt _ _ _ _ _ _ (Nat.le_of_ble_eq_true rfl) (Nat.le_of_ble_eq_true rfl) d_M_earthOf_26 hr5 h
def q_M_stepHeading (r : Int) (k_ : Int) (K : Int → zS → Prop) (σ : zS) : Prop :=
  q_M_placeAt r k_ (fun r2 σ1 =>
    zR (k_ + 1) ∧ (q_M_placeAt r (k_ + 1) (fun r5 σ4 =>
        q_M_heading r2 r5 (fun r7 σ6 =>
          K r7 σ6) σ4) σ1)) σ
abbrev rm_M_stepHeading : Room := { frames := 2, cells := 0, slots := 0, locals := 43 }
set_option maxRecDepth 20000 in
set_option maxHeartbeats 4000000 in
theorem s_M_stepHeading {Ω : zO} {ad : Nat → Nat} {r : Int} {k_ : Int} {K : Int → zS → Prop} {σ : zS} (hr : zR r) (hk_ : zR k_) (h : q_M_stepHeading r k_ K σ) : zMi Ω y_M_stepHeading (.code y_M_stepHeading c_M_stepHeading 3 (some .int)) rm_M_stepHeading zLy ad [.ref (ad 41), .int (zI r), .int (zI k_)] σ K := by
  refine z_ofi (lv := [(0, .ref (ad 41)), (1, .int (zI r)), (2, .int (zI k_))]) (by decide) rfl (Nat.le_of_ble_eq_true rfl) ?_
  intro Γ Q cx rt
  unfold q_M_stepHeading at h
  refine v_aload_n cx 0 d_M_stepHeading_0 rfl rfl ?_
  refine v_aload_n cx 0 d_M_stepHeading_1 rfl rfl ?_
  refine v_iload_n cx 1 d_M_stepHeading_2 rfl rfl ?_
  refine v_iload_n cx 2 d_M_stepHeading_3 rfl rfl ?_
  refine v_callVi0 (st := [.ref (ad 41)]) cx (s_M_placeAt hr hk_ h) yk_M_placeAt lk_M_212 zl_41 rfl rfl rfl (Nat.le_of_ble_eq_true rfl) ⟨Nat.le_of_ble_eq_true rfl, Nat.le_of_ble_eq_true rfl⟩ ⟨rfl, rfl⟩ ⟨(Nat.le_of_ble_eq_true rfl), (Nat.le_of_ble_eq_true rfl)⟩ d_M_stepHeading_4 (fun r2 σ1 hr2 h => ?_)
  refine v_aload_n cx 0 d_M_stepHeading_7 rfl rfl ?_
  refine v_iload_n cx 1 d_M_stepHeading_8 rfl rfl ?_
  refine v_iload_n cx 2 d_M_stepHeading_9 rfl rfl ?_
  refine v_iconst cx d_M_stepHeading_10 ?_
  refine v_iadd cx d_M_stepHeading_11 ?_
  obtain ⟨hr3, h⟩ := h
  refine v_callVi0 (st := [.int (zI r2), .ref (ad 41)]) cx (s_M_placeAt hr hr3 h) yk_M_placeAt lk_M_212 zl_41 rfl rfl rfl (Nat.le_of_ble_eq_true rfl) ⟨Nat.le_of_ble_eq_true rfl, Nat.le_of_ble_eq_true rfl⟩ ⟨rfl, rfl⟩ ⟨(Nat.le_of_ble_eq_true rfl), (Nat.le_of_ble_eq_true rfl)⟩ d_M_stepHeading_12 (fun r5 σ4 hr5 h => ?_)
  refine v_callVi0 (st := []) cx (s_M_heading hr2 hr5 h) yk_M_heading lk_M_178 zl_41 rfl rfl rfl (Nat.le_of_ble_eq_true rfl) ⟨Nat.le_of_ble_eq_true rfl, Nat.le_of_ble_eq_true rfl⟩ ⟨rfl, rfl⟩ ⟨(Nat.le_of_ble_eq_true rfl), (Nat.le_of_ble_eq_true rfl)⟩ d_M_stepHeading_15 (fun r7 σ6 hr7 h => ?_)
  exact rt _ _ _ _ _ _ (Nat.le_of_ble_eq_true rfl) (Nat.le_of_ble_eq_true rfl) d_M_stepHeading_18 hr7 h
def q_M_isRuled (r : Int) (k_ : Int) (a : Int) (b : Int) (rule : Int) (K : Int → zS → Prop) (σ : zS) : Prop :=
  q_M_placeAt r k_ (fun r2 σ1 =>
    (0 ≤ 13 + r2 ∧ 13 + r2 < 499) ∧ (zR (k_ + 1) ∧ (q_M_placeAt r (k_ + 1) (fun r7 σ6 =>
          (0 ≤ 13 + r7 ∧ 13 + r7 < 499) ∧ (zR ((σ1 42 (13 + r2)) + a) ∧ (zR ((σ6 42 (13 + r7)) + b) ∧ (q_M_apart ((σ1 42 (13 + r2)) + a) ((σ6 42 (13 + r7)) + b) (fun r13 σ12 =>
                  q_M_stepHeading r k_ (fun r15 σ14 =>
                    q_M_longOf r15 (fun r17 σ16 =>
                      zR (100 * r13) ∧ (zR (rule * r17) ∧ (((rule * r17) < (100 * r13) →
                            K 0 σ16) ∧ ((100 * r13) ≤ (rule * r17) →
                            K 1 σ16)))) σ14) σ12) σ6)))) σ1))) σ
abbrev rm_M_isRuled : Room := { frames := 3, cells := 0, slots := 0, locals := 65 }
set_option maxRecDepth 20000 in
set_option maxHeartbeats 4000000 in
theorem s_M_isRuled {Ω : zO} {ad : Nat → Nat} {r : Int} {k_ : Int} {a : Int} {b : Int} {rule : Int} {K : Int → zS → Prop} {σ : zS} (hr : zR r) (hk_ : zR k_) (ha : zR a) (hb : zR b) (hrule : zR rule) (h : q_M_isRuled r k_ a b rule K σ) : zMz Ω y_M_isRuled (.code y_M_isRuled c_M_isRuled 7 (some .boolean)) rm_M_isRuled zLy ad [.ref (ad 41), .int (zI r), .int (zI k_), .int (zI a), .int (zI b), .int (zI rule)] σ K := by
  refine z_ofz (lv := [(0, .ref (ad 41)), (1, .int (zI r)), (2, .int (zI k_)), (3, .int (zI a)), (4, .int (zI b)), (5, .int (zI rule))]) (by decide) rfl (Nat.le_of_ble_eq_true rfl) ?_
  intro Γ Q cx rt
  unfold q_M_isRuled at h
  refine v_aload_n cx 0 d_M_isRuled_0 rfl rfl ?_
  refine gf_M_7 cx d_M_isRuled_1 ?_
  refine v_bipush cx (by decide) d_M_isRuled_4 ?_
  refine v_aload_n cx 0 d_M_isRuled_6 rfl rfl ?_
  refine v_iload_n cx 1 d_M_isRuled_7 rfl rfl ?_
  refine v_iload_n cx 2 d_M_isRuled_8 rfl rfl ?_
  refine v_callVi0 (st := [.int (zI 13), .ref (ad 42)]) cx (s_M_placeAt hr hk_ h) yk_M_placeAt lk_M_212 zl_41 rfl rfl rfl (Nat.le_of_ble_eq_true rfl) ⟨Nat.le_of_ble_eq_true rfl, Nat.le_of_ble_eq_true rfl⟩ ⟨rfl, rfl⟩ ⟨(Nat.le_of_ble_eq_true rfl), (Nat.le_of_ble_eq_true rfl)⟩ d_M_isRuled_9 (fun r2 σ1 hr2 h => ?_)
  refine v_iadd cx d_M_isRuled_12 ?_
  obtain ⟨hb3, h⟩ := h
  refine v_iald cx zl_42 (by decide) hb3.1 hb3.2 d_M_isRuled_13 (fun hl4 => ?_)
  refine v_iload_n cx 3 d_M_isRuled_14 rfl rfl ?_
  refine v_iadd cx d_M_isRuled_15 ?_
  refine v_aload_n cx 0 d_M_isRuled_16 rfl rfl ?_
  refine gf_M_7 cx d_M_isRuled_17 ?_
  refine v_bipush cx (by decide) d_M_isRuled_20 ?_
  refine v_aload_n cx 0 d_M_isRuled_22 rfl rfl ?_
  refine v_iload_n cx 1 d_M_isRuled_23 rfl rfl ?_
  refine v_iload_n cx 2 d_M_isRuled_24 rfl rfl ?_
  refine v_iconst cx d_M_isRuled_25 ?_
  refine v_iadd cx d_M_isRuled_26 ?_
  obtain ⟨hr5, h⟩ := h
  refine v_callVi0 (st := [.int (zI 13), .ref (ad 42), .int (zI ((σ1 42 (13 + r2)) + a))]) cx (s_M_placeAt hr hr5 h) yk_M_placeAt lk_M_212 zl_41 rfl rfl rfl (Nat.le_of_ble_eq_true rfl) ⟨Nat.le_of_ble_eq_true rfl, Nat.le_of_ble_eq_true rfl⟩ ⟨rfl, rfl⟩ ⟨(Nat.le_of_ble_eq_true rfl), (Nat.le_of_ble_eq_true rfl)⟩ d_M_isRuled_27 (fun r7 σ6 hr7 h => ?_)
  refine v_iadd cx d_M_isRuled_30 ?_
  obtain ⟨hb8, h⟩ := h
  refine v_iald cx zl_42 (by decide) hb8.1 hb8.2 d_M_isRuled_31 (fun hl9 => ?_)
  refine v_iload cx 4 d_M_isRuled_32 rfl ?_
  refine v_iadd cx d_M_isRuled_34 ?_
  obtain ⟨hr10, h⟩ := h
  obtain ⟨hr11, h⟩ := h
  refine v_callSi0 (st := []) cx (s_M_apart hr10 hr11 h) yk_M_apart lk_M_98 rfl rfl (Nat.le_of_ble_eq_true rfl) ⟨Nat.le_of_ble_eq_true rfl, Nat.le_of_ble_eq_true rfl⟩ ⟨rfl, rfl⟩ ⟨(Nat.le_of_ble_eq_true rfl), (Nat.le_of_ble_eq_true rfl)⟩ d_M_isRuled_35 (fun r13 σ12 hr13 h => ?_)
  refine v_istore (lv' := [(0, .ref (ad 41)), (1, .int (zI r)), (2, .int (zI k_)), (3, .int (zI a)), (4, .int (zI b)), (5, .int (zI rule)), (6, .int (zI r13))]) cx d_M_isRuled_38 (by decide) rfl rfl ?_
  refine v_bipush cx (by decide) d_M_isRuled_40 ?_
  refine v_iload cx 6 d_M_isRuled_42 rfl ?_
  refine v_imul cx d_M_isRuled_44 ?_
  refine v_iload cx 5 d_M_isRuled_45 rfl ?_
  refine v_aload_n cx 0 d_M_isRuled_47 rfl rfl ?_
  refine v_iload_n cx 1 d_M_isRuled_48 rfl rfl ?_
  refine v_iload_n cx 2 d_M_isRuled_49 rfl rfl ?_
  refine v_callVi0 (st := [.int (zI rule), .int (zI (100 * r13))]) cx (s_M_stepHeading hr hk_ h) yk_M_stepHeading lk_M_308 zl_41 rfl rfl rfl (Nat.le_of_ble_eq_true rfl) ⟨Nat.le_of_ble_eq_true rfl, Nat.le_of_ble_eq_true rfl⟩ ⟨rfl, rfl⟩ ⟨(Nat.le_of_ble_eq_true rfl), (Nat.le_of_ble_eq_true rfl)⟩ d_M_isRuled_50 (fun r15 σ14 hr15 h => ?_)
  refine v_callSi0 (st := [.int (zI rule), .int (zI (100 * r13))]) cx (s_M_longOf hr15 h) yk_M_longOf lk_M_108 rfl rfl (Nat.le_of_ble_eq_true rfl) ⟨Nat.le_of_ble_eq_true rfl, Nat.le_of_ble_eq_true rfl⟩ ⟨rfl, rfl⟩ ⟨(Nat.le_of_ble_eq_true rfl), (Nat.le_of_ble_eq_true rfl)⟩ d_M_isRuled_53 (fun r17 σ16 hr17 h => ?_)
  refine v_imul cx d_M_isRuled_56 ?_
  obtain ⟨hr18, h⟩ := h
  obtain ⟨hr19, h⟩ := h
  refine v_icmp_gt cx 64 d_M_isRuled_57 (by decide) hr18 hr19 (fun c20 => ?_) (fun c20 => ?_)
  · replace h := h.1 c20
    refine v_iconst cx d_M_isRuled_64 ?_
    exact rt _ _ _ _ _ _ (Nat.le_of_ble_eq_true rfl) (Nat.le_of_ble_eq_true rfl) d_M_isRuled_65 (Or.inl rfl) h
  · replace h := h.2 c20
    refine v_iconst cx d_M_isRuled_60 ?_
    refine v_goto cx 65 d_M_isRuled_61 (by decide) ?_
    exact rt _ _ _ _ _ _ (Nat.le_of_ble_eq_true rfl) (Nat.le_of_ble_eq_true rfl) d_M_isRuled_65 (Or.inr rfl) h
def q_M_cell (k_ : Int) (offset : Int) (sum : Int) (K : Int → zS → Prop) (σ : zS) : Prop :=
  zR ((((((k_ * 7) + offset) + 3) * 246) + sum) + 123) ∧ (K ((((((k_ * 7) + offset) + 3) * 246) + sum) + 123) σ)
abbrev rm_M_cell : Room := { frames := 0, cells := 0, slots := 0, locals := 0 }
set_option maxRecDepth 20000 in
set_option maxHeartbeats 4000000 in
theorem s_M_cell {Ω : zO} {ad : Nat → Nat} {k_ : Int} {offset : Int} {sum : Int} {K : Int → zS → Prop} {σ : zS} (hk_ : zR k_) (hoffset : zR offset) (hsum : zR sum) (h : q_M_cell k_ offset sum K σ) : zMi Ω y_M_cell (.code y_M_cell c_M_cell 3 (some .int)) rm_M_cell zLy ad [.int (zI k_), .int (zI offset), .int (zI sum)] σ K := by
  refine z_ofi (lv := [(0, .int (zI k_)), (1, .int (zI offset)), (2, .int (zI sum))]) (by decide) rfl (Nat.le_of_ble_eq_true rfl) ?_
  intro Γ Q cx rt
  unfold q_M_cell at h
  refine v_iload_n cx 0 d_M_cell_0 rfl rfl ?_
  refine v_bipush cx (by decide) d_M_cell_1 ?_
  refine v_imul cx d_M_cell_3 ?_
  refine v_iload_n cx 1 d_M_cell_4 rfl rfl ?_
  refine v_iadd cx d_M_cell_5 ?_
  refine v_iconst cx d_M_cell_6 ?_
  refine v_iadd cx d_M_cell_7 ?_
  refine v_sipush cx (by decide) d_M_cell_8 ?_
  refine v_imul cx d_M_cell_11 ?_
  refine v_iload_n cx 2 d_M_cell_12 rfl rfl ?_
  refine v_iadd cx d_M_cell_13 ?_
  refine v_bipush cx (by decide) d_M_cell_14 ?_
  refine v_iadd cx d_M_cell_16 ?_
  obtain ⟨hr1, h⟩ := h
  exact rt _ _ _ _ _ _ (Nat.le_of_ble_eq_true rfl) (Nat.le_of_ble_eq_true rfl) d_M_cell_17 hr1 h
def q_M_laysEarth (r : Int) (rule : Int) (K : zS → Prop) (σ : zS) : Prop :=
  ∀ x2 : Int, x2 = σ 42 9 → q_M_many r (fun r4 σ3 =>
    ∀ x5 : Int, x5 = r4 - 1 → ∃ (I21 : Int → zS → Prop) (μ21 : Int → zS → Nat), (I21 x5 σ3 ∧ zR x5) ∧ ∀ (y6 : Int) (σ7 : zS), I21 y6 σ7 → zR y6 → 
    (y6 < 0 →
      K σ7) ∧ (0 ≤ y6 →
      ∀ x10 : Int, x10 = -x2 → ∃ (I30 : Int → zS → Prop) (μ30 : Int → zS → Nat), (I30 x10 σ7 ∧ zR x10) ∧ ∀ (y11 : Int) (σ12 : zS), I30 y11 σ12 → zR y11 → 
      (x2 < y11 →
        I21 (y6 + (-1)) σ12 ∧ zR (y6 + (-1)) ∧ μ21 (y6 + (-1)) σ12 < μ21 y6 σ7) ∧ (y11 ≤ x2 →
        ∀ x17 : Int, x17 = ((-3) * y6) - 3 → ∃ (I45 : Int → zS → Prop) (μ45 : Int → zS → Nat), (I45 x17 σ12 ∧ zR x17) ∧ ∀ (y18 : Int) (σ19 : zS), I45 y18 σ19 → zR y18 → 
        zR ((3 * y6) + 3) ∧ ((((3 * y6) + 3) < y18 →
            I30 (y11 + 1) σ19 ∧ zR (y11 + 1) ∧ μ30 (y11 + 1) σ19 < μ30 y11 σ12) ∧ (y18 ≤ ((3 * y6) + 3) →
            zR x5 ∧ ((y6 ≠ x5 →
                ∀ x27 : Int, x27 = -x2 → ∃ (I98 : Int → Int → zS → Prop) (μ98 : Int → Int → zS → Nat), (I98 1000000000 x27 σ19 ∧ zR x27) ∧ ∀ (y28 y29 : Int) (σ30 : zS), I98 y28 y29 σ30 → zR y28 → zR y29 → 
                ∃ J179 : Int → zS → Prop, (∀ (w32 : Int) (σ33 : zS), J179 w32 σ33 → zR w32 → 
                  q_M_cell y6 y11 y18 (fun r35 σ34 =>
                    (0 ≤ r35 ∧ r35 < 68880) ∧ (∀ σ37 : zS, σ37 = zU σ34 55 r35 w32 → I45 (y18 + 1) σ37 ∧ zR (y18 + 1) ∧ μ45 (y18 + 1) σ37 < μ45 y18 σ19)) σ33) ∧
                ((x2 < y29 →
                    J179 y28 σ30) ∧ (y29 ≤ x2 →
                    (x5 ≤ y6 →
                      J179 y28 σ30) ∧ (y6 < x5 →
                      q_M_isRuled r y6 y11 y29 rule (fun r43 σ42 =>
                        (r43 ≠ 0 →
                          zR (y6 + 1) ∧ (zR (y18 + y29) ∧ (q_M_cell (y6 + 1) y29 (y18 + y29) (fun r48 σ47 =>
                                (0 ≤ r48 ∧ r48 < 68880) ∧ (∀ x51 : Int, x51 = σ47 55 r48 → (1000000000 ≤ x51 →
                                    I98 y28 (y29 + 1) σ47 ∧ zR (y29 + 1) ∧ μ98 y28 (y29 + 1) σ47 < μ98 y28 y29 σ30) ∧ (x51 < 1000000000 →
                                    q_M_earthOf y29 (fun r56 σ55 =>
                                      zR (x51 + r56) ∧ (q_M_lesser y28 (x51 + r56) (fun r59 σ58 =>
                                          I98 r59 (y29 + 1) σ58 ∧ zR (y29 + 1) ∧ μ98 r59 (y29 + 1) σ58 < μ98 y28 y29 σ30) σ55)) σ47))) σ42))) ∧ (r43 = 0 →
                          I98 y28 (y29 + 1) σ42 ∧ zR (y29 + 1) ∧ μ98 y28 (y29 + 1) σ42 < μ98 y28 y29 σ30)) σ30)))) ∧ (y6 = x5 →
                zR (-(σ19 42 12)) ∧ (q_M_isIn y18 (-(σ19 42 12)) (σ19 42 12) (fun r68 σ67 =>
                    (r68 = 0 →
                      ∀ x70 : Int, x70 = -x2 → ∃ (I98 : Int → Int → zS → Prop) (μ98 : Int → Int → zS → Nat), (I98 1000000000 x70 σ67 ∧ zR x70) ∧ ∀ (y71 y72 : Int) (σ73 : zS), I98 y71 y72 σ73 → zR y71 → zR y72 → 
                      ∃ J179 : Int → zS → Prop, (∀ (w75 : Int) (σ76 : zS), J179 w75 σ76 → zR w75 → 
                        q_M_cell y6 y11 y18 (fun r78 σ77 =>
                          (0 ≤ r78 ∧ r78 < 68880) ∧ (∀ σ80 : zS, σ80 = zU σ77 55 r78 w75 → I45 (y18 + 1) σ80 ∧ zR (y18 + 1) ∧ μ45 (y18 + 1) σ80 < μ45 y18 σ19)) σ76) ∧
                      ((x2 < y72 →
                          J179 y71 σ73) ∧ (y72 ≤ x2 →
                          (x5 ≤ y6 →
                            J179 y71 σ73) ∧ (y6 < x5 →
                            q_M_isRuled r y6 y11 y72 rule (fun r86 σ85 =>
                              (r86 ≠ 0 →
                                zR (y6 + 1) ∧ (zR (y18 + y72) ∧ (q_M_cell (y6 + 1) y72 (y18 + y72) (fun r91 σ90 =>
                                      (0 ≤ r91 ∧ r91 < 68880) ∧ (∀ x94 : Int, x94 = σ90 55 r91 → (1000000000 ≤ x94 →
                                          I98 y71 (y72 + 1) σ90 ∧ zR (y72 + 1) ∧ μ98 y71 (y72 + 1) σ90 < μ98 y71 y72 σ73) ∧ (x94 < 1000000000 →
                                          q_M_earthOf y72 (fun r99 σ98 =>
                                            zR (x94 + r99) ∧ (q_M_lesser y71 (x94 + r99) (fun r102 σ101 =>
                                                I98 r102 (y72 + 1) σ101 ∧ zR (y72 + 1) ∧ μ98 r102 (y72 + 1) σ101 < μ98 y71 y72 σ73) σ98)) σ90))) σ85))) ∧ (r86 = 0 →
                                I98 y71 (y72 + 1) σ85 ∧ zR (y72 + 1) ∧ μ98 y71 (y72 + 1) σ85 < μ98 y71 y72 σ73)) σ73)))) ∧ (r68 ≠ 0 →
                      ∀ x107 : Int, x107 = -x2 → ∃ (I98 : Int → Int → zS → Prop) (μ98 : Int → Int → zS → Nat), (I98 0 x107 σ67 ∧ zR x107) ∧ ∀ (y108 y109 : Int) (σ110 : zS), I98 y108 y109 σ110 → zR y108 → zR y109 → 
                      ∃ J179 : Int → zS → Prop, (∀ (w112 : Int) (σ113 : zS), J179 w112 σ113 → zR w112 → 
                        q_M_cell y6 y11 y18 (fun r115 σ114 =>
                          (0 ≤ r115 ∧ r115 < 68880) ∧ (∀ σ117 : zS, σ117 = zU σ114 55 r115 w112 → I45 (y18 + 1) σ117 ∧ zR (y18 + 1) ∧ μ45 (y18 + 1) σ117 < μ45 y18 σ19)) σ113) ∧
                      ((x2 < y109 →
                          J179 y108 σ110) ∧ (y109 ≤ x2 →
                          (x5 ≤ y6 →
                            J179 y108 σ110) ∧ (y6 < x5 →
                            q_M_isRuled r y6 y11 y109 rule (fun r123 σ122 =>
                              (r123 ≠ 0 →
                                zR (y6 + 1) ∧ (zR (y18 + y109) ∧ (q_M_cell (y6 + 1) y109 (y18 + y109) (fun r128 σ127 =>
                                      (0 ≤ r128 ∧ r128 < 68880) ∧ (∀ x131 : Int, x131 = σ127 55 r128 → (1000000000 ≤ x131 →
                                          I98 y108 (y109 + 1) σ127 ∧ zR (y109 + 1) ∧ μ98 y108 (y109 + 1) σ127 < μ98 y108 y109 σ110) ∧ (x131 < 1000000000 →
                                          q_M_earthOf y109 (fun r136 σ135 =>
                                            zR (x131 + r136) ∧ (q_M_lesser y108 (x131 + r136) (fun r139 σ138 =>
                                                I98 r139 (y109 + 1) σ138 ∧ zR (y109 + 1) ∧ μ98 r139 (y109 + 1) σ138 < μ98 y108 y109 σ110) σ135)) σ127))) σ122))) ∧ (r123 = 0 →
                                I98 y108 (y109 + 1) σ122 ∧ zR (y109 + 1) ∧ μ98 y108 (y109 + 1) σ122 < μ98 y108 y109 σ110)) σ110))))) σ19)))))))) σ
abbrev rm_M_laysEarth : Room := { frames := 4, cells := 0, slots := 0, locals := 91 }
set_option maxRecDepth 20000 in
set_option maxHeartbeats 4000000 in
theorem s_M_laysEarth {Ω : zO} {ad : Nat → Nat} {r : Int} {rule : Int} {K : zS → Prop} {σ : zS} (hr : zR r) (hrule : zR rule) (h : q_M_laysEarth r rule K σ) : zMv Ω y_M_laysEarth (.code y_M_laysEarth c_M_laysEarth 11 none) rm_M_laysEarth zLy ad [.ref (ad 41), .int (zI r), .int (zI rule)] σ K := by
  refine z_ofv (lv := [(0, .ref (ad 41)), (1, .int (zI r)), (2, .int (zI rule))]) (by decide) rfl (Nat.le_of_ble_eq_true rfl) ?_
  intro Γ Q cx rt
  unfold q_M_laysEarth at h
  refine v_aload_n cx 0 d_M_laysEarth_0 rfl rfl ?_
  refine gf_M_7 cx d_M_laysEarth_1 ?_
  refine v_bipush cx (by decide) d_M_laysEarth_4 ?_
  refine v_iald cx zl_42 (by decide) (by decide) (by decide) d_M_laysEarth_6 (fun hl1 => ?_)
  refine v_nm (fun x2 ex2 => ?_)
  replace h := h x2 ex2
  have hx2 : zR x2 := by rw [ex2]; exact hl1
  refine v_istore_n (lv' := [(0, .ref (ad 41)), (1, .int (zI r)), (2, .int (zI rule)), (3, .int (zI x2))]) cx d_M_laysEarth_7 rfl (by decide) rfl rfl ?_
  refine v_aload_n cx 0 d_M_laysEarth_8 rfl rfl ?_
  refine v_iload_n cx 1 d_M_laysEarth_9 rfl rfl ?_
  refine v_callVi0 (st := []) cx (s_M_many hr h) yk_M_many lk_M_129 zl_41 rfl rfl rfl (Nat.le_of_ble_eq_true rfl) ⟨Nat.le_of_ble_eq_true rfl, Nat.le_of_ble_eq_true rfl⟩ ⟨rfl, rfl⟩ ⟨(Nat.le_of_ble_eq_true rfl), (Nat.le_of_ble_eq_true rfl)⟩ d_M_laysEarth_10 (fun r4 σ3 hr4 h => ?_)
  refine v_iconst cx d_M_laysEarth_13 ?_
  refine v_isub cx d_M_laysEarth_14 ?_
  refine v_nm (fun x5 ex5 => ?_)
  replace h := h x5 ex5
  refine v_istore (lv' := [(0, .ref (ad 41)), (1, .int (zI r)), (2, .int (zI rule)), (3, .int (zI x2)), (4, .int (zI x5))]) cx d_M_laysEarth_15 (by decide) rfl rfl ?_
  refine v_iload cx 4 d_M_laysEarth_17 rfl ?_
  refine v_istore (lv' := [(0, .ref (ad 41)), (1, .int (zI r)), (2, .int (zI rule)), (3, .int (zI x2)), (4, .int (zI x5)), (5, .int (zI x5))]) cx d_M_laysEarth_19 (by decide) rfl rfl ?_
  obtain ⟨I21, μ21, h0, h⟩ := h
  obtain ⟨h0, hi8⟩ := h0
  have L21 : ∀ (N21 : Nat) (y6 : Int) (σ7 : zS), μ21 y6 σ7 < N21 → I21 y6 σ7 → zR y6 → zV Ω Γ rm_M_laysEarth 11 Q 0 0 zLy ad σ7 21 [(0, .ref (ad 41)), (1, .int (zI r)), (2, .int (zI rule)), (3, .int (zI x2)), (4, .int (zI x5)), (5, .int (zI y6))] [] := by
    intro N21
    induction N21 with
    | zero => intro y6 σ7 hm; exact absurd hm (Nat.not_lt_zero _)
    | succ N21 ih21 =>
      intro y6 σ7 hmm21 hI hy6
      replace h := h y6 σ7 hI hy6
      refine v_iload cx 5 d_M_laysEarth_21 rfl ?_
      refine v_if_lt cx 213 d_M_laysEarth_23 (by decide) hy6 (fun c9 => ?_) (fun c9 => ?_)
      · replace h := h.1 c9
        exact rt _ _ _ _ _ (Nat.le_of_ble_eq_true rfl) (Nat.le_of_ble_eq_true rfl) d_M_laysEarth_213 h
      · replace h := h.2 c9
        refine v_iload_n cx 3 d_M_laysEarth_26 rfl rfl ?_
        refine v_ineg cx d_M_laysEarth_27 ?_
        refine v_nm (fun x10 ex10 => ?_)
        replace h := h x10 ex10
        refine v_istore (lv' := [(0, .ref (ad 41)), (1, .int (zI r)), (2, .int (zI rule)), (3, .int (zI x2)), (4, .int (zI x5)), (5, .int (zI y6)), (6, .int (zI x10))]) cx d_M_laysEarth_28 (by decide) rfl rfl ?_
        obtain ⟨I30, μ30, h0, h⟩ := h
        obtain ⟨h0, hi13⟩ := h0
        have L30 : ∀ (N30 : Nat) (y11 : Int) (σ12 : zS), μ30 y11 σ12 < N30 → I30 y11 σ12 → zR y11 → zV Ω Γ rm_M_laysEarth 11 Q 0 0 zLy ad σ12 30 [(0, .ref (ad 41)), (1, .int (zI r)), (2, .int (zI rule)), (3, .int (zI x2)), (4, .int (zI x5)), (5, .int (zI y6)), (6, .int (zI y11))] [] := by
          intro N30
          induction N30 with
          | zero => intro y11 σ12 hm; exact absurd hm (Nat.not_lt_zero _)
          | succ N30 ih30 =>
            intro y11 σ12 hmm30 hI hy11
            replace h := h y11 σ12 hI hy11
            refine v_iload cx 6 d_M_laysEarth_30 rfl ?_
            refine v_iload_n cx 3 d_M_laysEarth_32 rfl rfl ?_
            refine v_icmp_gt cx 207 d_M_laysEarth_33 (by decide) hy11 hx2 (fun c14 => ?_) (fun c14 => ?_)
            · replace h := h.1 c14
              refine v_iinc (lv' := [(0, .ref (ad 41)), (1, .int (zI r)), (2, .int (zI rule)), (3, .int (zI x2)), (4, .int (zI x5)), (5, .int (zI (y6 + (-1)))), (6, .int (zI y11))]) cx 5 d_M_laysEarth_207 rfl (by decide) rfl rfl ?_
              refine v_goto cx 21 d_M_laysEarth_210 (by decide) ?_
              refine v_sb (lv' := [(0, .ref (ad 41)), (1, .int (zI r)), (2, .int (zI rule)), (3, .int (zI x2)), (4, .int (zI x5)), (5, .int (zI (y6 + (-1))))]) [0, 1, 2, 3, 4, 5] rfl ?_
              obtain ⟨hI2, hz16, hm2⟩ := h
              exact ih21 _ _ (Nat.lt_of_lt_of_le hm2 (Nat.le_of_lt_succ hmm21)) hI2 hz16
            · replace h := h.2 c14
              refine v_bipush cx (by decide) d_M_laysEarth_36 ?_
              refine v_iload cx 5 d_M_laysEarth_38 rfl ?_
              refine v_imul cx d_M_laysEarth_40 ?_
              refine v_iconst cx d_M_laysEarth_41 ?_
              refine v_isub cx d_M_laysEarth_42 ?_
              refine v_nm (fun x17 ex17 => ?_)
              replace h := h x17 ex17
              refine v_istore (lv' := [(0, .ref (ad 41)), (1, .int (zI r)), (2, .int (zI rule)), (3, .int (zI x2)), (4, .int (zI x5)), (5, .int (zI y6)), (6, .int (zI y11)), (7, .int (zI x17))]) cx d_M_laysEarth_43 (by decide) rfl rfl ?_
              obtain ⟨I45, μ45, h0, h⟩ := h
              obtain ⟨h0, hi20⟩ := h0
              have L45 : ∀ (N45 : Nat) (y18 : Int) (σ19 : zS), μ45 y18 σ19 < N45 → I45 y18 σ19 → zR y18 → zV Ω Γ rm_M_laysEarth 11 Q 0 0 zLy ad σ19 45 [(0, .ref (ad 41)), (1, .int (zI r)), (2, .int (zI rule)), (3, .int (zI x2)), (4, .int (zI x5)), (5, .int (zI y6)), (6, .int (zI y11)), (7, .int (zI y18))] [] := by
                intro N45
                induction N45 with
                | zero => intro y18 σ19 hm; exact absurd hm (Nat.not_lt_zero _)
                | succ N45 ih45 =>
                  intro y18 σ19 hmm45 hI hy18
                  replace h := h y18 σ19 hI hy18
                  refine v_iload cx 7 d_M_laysEarth_45 rfl ?_
                  refine v_iconst cx d_M_laysEarth_47 ?_
                  refine v_iload cx 5 d_M_laysEarth_48 rfl ?_
                  refine v_imul cx d_M_laysEarth_50 ?_
                  refine v_iconst cx d_M_laysEarth_51 ?_
                  refine v_iadd cx d_M_laysEarth_52 ?_
                  obtain ⟨hr21, h⟩ := h
                  refine v_icmp_gt cx 201 d_M_laysEarth_53 (by decide) hy18 hr21 (fun c22 => ?_) (fun c22 => ?_)
                  · replace h := h.1 c22
                    refine v_iinc (lv' := [(0, .ref (ad 41)), (1, .int (zI r)), (2, .int (zI rule)), (3, .int (zI x2)), (4, .int (zI x5)), (5, .int (zI y6)), (6, .int (zI (y11 + 1))), (7, .int (zI y18))]) cx 6 d_M_laysEarth_201 rfl (by decide) rfl rfl ?_
                    refine v_goto cx 30 d_M_laysEarth_204 (by decide) ?_
                    refine v_sb (lv' := [(0, .ref (ad 41)), (1, .int (zI r)), (2, .int (zI rule)), (3, .int (zI x2)), (4, .int (zI x5)), (5, .int (zI y6)), (6, .int (zI (y11 + 1)))]) [0, 1, 2, 3, 4, 5, 6] rfl ?_
                    obtain ⟨hI2, hz24, hm2⟩ := h
                    exact ih30 _ _ (Nat.lt_of_lt_of_le hm2 (Nat.le_of_lt_succ hmm30)) hI2 hz24
                  · replace h := h.2 c22
                    refine v_iload cx 5 d_M_laysEarth_56 rfl ?_
                    refine v_iload cx 4 d_M_laysEarth_58 rfl ?_
                    obtain ⟨hr25, h⟩ := h
                    refine v_icmp_ne cx 90 d_M_laysEarth_60 (by decide) hy6 hr25 (fun c26 => ?_) (fun c26 => ?_)
                    · replace h := h.1 c26
                      refine v_ldc cx ct_M_155 d_M_laysEarth_90 ?_
                      refine v_istore (lv' := [(0, .ref (ad 41)), (1, .int (zI r)), (2, .int (zI rule)), (3, .int (zI x2)), (4, .int (zI x5)), (5, .int (zI y6)), (6, .int (zI y11)), (7, .int (zI y18)), (8, .int (zI 1000000000))]) cx d_M_laysEarth_92 (by decide) rfl rfl ?_
                      refine v_iload_n cx 3 d_M_laysEarth_94 rfl rfl ?_
                      refine v_ineg cx d_M_laysEarth_95 ?_
                      refine v_nm (fun x27 ex27 => ?_)
                      replace h := h x27 ex27
                      refine v_istore (lv' := [(0, .ref (ad 41)), (1, .int (zI r)), (2, .int (zI rule)), (3, .int (zI x2)), (4, .int (zI x5)), (5, .int (zI y6)), (6, .int (zI y11)), (7, .int (zI y18)), (8, .int (zI 1000000000)), (9, .int (zI x27))]) cx d_M_laysEarth_96 (by decide) rfl rfl ?_
                      obtain ⟨I98, μ98, h0, h⟩ := h
                      obtain ⟨h0, hi31⟩ := h0
                      have L98 : ∀ (N98 : Nat) (y28 y29 : Int) (σ30 : zS), μ98 y28 y29 σ30 < N98 → I98 y28 y29 σ30 → zR y28 → zR y29 → zV Ω Γ rm_M_laysEarth 11 Q 0 0 zLy ad σ30 98 [(0, .ref (ad 41)), (1, .int (zI r)), (2, .int (zI rule)), (3, .int (zI x2)), (4, .int (zI x5)), (5, .int (zI y6)), (6, .int (zI y11)), (7, .int (zI y18)), (8, .int (zI y28)), (9, .int (zI y29))] [] := by
                        intro N98
                        induction N98 with
                        | zero => intro y28 y29 σ30 hm; exact absurd hm (Nat.not_lt_zero _)
                        | succ N98 ih98 =>
                          intro y28 y29 σ30 hmm98 hI hy28 hy29
                          replace h := h y28 y29 σ30 hI hy28 hy29
                          refine v_iload cx 9 d_M_laysEarth_98 rfl ?_
                          refine v_iload_n cx 3 d_M_laysEarth_100 rfl rfl ?_
                          obtain ⟨J179, hJ179, h⟩ := h
                          have G179 : ∀ (w32 : Int) (σ33 : zS), J179 w32 σ33 → zR w32 → zV Ω Γ rm_M_laysEarth 11 Q 0 0 zLy ad σ33 179 [(0, .ref (ad 41)), (1, .int (zI r)), (2, .int (zI rule)), (3, .int (zI x2)), (4, .int (zI x5)), (5, .int (zI y6)), (6, .int (zI y11)), (7, .int (zI y18)), (8, .int (zI w32))] [] := by
                            intro w32 σ33 hJ hw32
                            replace h := hJ179 w32 σ33 hJ hw32
                            refine v_aload_n cx 0 d_M_laysEarth_179 rfl rfl ?_
                            refine gf_M_54 cx d_M_laysEarth_180 ?_
                            refine v_iload cx 5 d_M_laysEarth_183 rfl ?_
                            refine v_iload cx 6 d_M_laysEarth_185 rfl ?_
                            refine v_iload cx 7 d_M_laysEarth_187 rfl ?_
                            refine v_callSi0 (st := [.ref (ad 55)]) cx (s_M_cell hy6 hy11 hy18 h) yk_M_cell lk_M_315 rfl rfl (Nat.le_of_ble_eq_true rfl) ⟨Nat.le_of_ble_eq_true rfl, Nat.le_of_ble_eq_true rfl⟩ ⟨rfl, rfl⟩ ⟨(Nat.le_of_ble_eq_true rfl), (Nat.le_of_ble_eq_true rfl)⟩ d_M_laysEarth_189 (fun r35 σ34 hr35 h => ?_)
                            refine v_iload cx 8 d_M_laysEarth_192 rfl ?_
                            obtain ⟨hb36, h⟩ := h
                            refine v_iast cx zl_55 (by decide) hb36.1 hb36.2 hw32 d_M_laysEarth_194 ?_
                            refine v_ns (fun σ37 eσ37 => ?_)
                            replace h := h σ37 eσ37
                            refine v_iinc (lv' := [(0, .ref (ad 41)), (1, .int (zI r)), (2, .int (zI rule)), (3, .int (zI x2)), (4, .int (zI x5)), (5, .int (zI y6)), (6, .int (zI y11)), (7, .int (zI (y18 + 1))), (8, .int (zI w32))]) cx 7 d_M_laysEarth_195 rfl (by decide) rfl rfl ?_
                            refine v_goto cx 45 d_M_laysEarth_198 (by decide) ?_
                            refine v_sb (lv' := [(0, .ref (ad 41)), (1, .int (zI r)), (2, .int (zI rule)), (3, .int (zI x2)), (4, .int (zI x5)), (5, .int (zI y6)), (6, .int (zI y11)), (7, .int (zI (y18 + 1)))]) [0, 1, 2, 3, 4, 5, 6, 7] rfl ?_
                            obtain ⟨hI2, hz39, hm2⟩ := h
                            exact ih45 _ _ (Nat.lt_of_lt_of_le hm2 (Nat.le_of_lt_succ hmm45)) hI2 hz39
                          refine v_icmp_gt cx 179 d_M_laysEarth_101 (by decide) hy29 hx2 (fun c40 => ?_) (fun c40 => ?_)
                          · replace h := h.1 c40
                            refine v_sb (lv' := [(0, .ref (ad 41)), (1, .int (zI r)), (2, .int (zI rule)), (3, .int (zI x2)), (4, .int (zI x5)), (5, .int (zI y6)), (6, .int (zI y11)), (7, .int (zI y18)), (8, .int (zI y28))]) [0, 1, 2, 3, 4, 5, 6, 7, 8] rfl ?_
                            have hJ2 := h
                            exact G179 _ _ hJ2 hy28
                          · replace h := h.2 c40
                            refine v_iload cx 5 d_M_laysEarth_104 rfl ?_
                            refine v_iload cx 4 d_M_laysEarth_106 rfl ?_
                            refine v_icmp_ge cx 179 d_M_laysEarth_108 (by decide) hy6 hr25 (fun c41 => ?_) (fun c41 => ?_)
                            · replace h := h.1 c41
                              refine v_sb (lv' := [(0, .ref (ad 41)), (1, .int (zI r)), (2, .int (zI rule)), (3, .int (zI x2)), (4, .int (zI x5)), (5, .int (zI y6)), (6, .int (zI y11)), (7, .int (zI y18)), (8, .int (zI y28))]) [0, 1, 2, 3, 4, 5, 6, 7, 8] rfl ?_
                              have hJ2 := h
                              exact G179 _ _ hJ2 hy28
                            · replace h := h.2 c41
                              refine v_aload_n cx 0 d_M_laysEarth_111 rfl rfl ?_
                              refine v_iload_n cx 1 d_M_laysEarth_112 rfl rfl ?_
                              refine v_iload cx 5 d_M_laysEarth_113 rfl ?_
                              refine v_iload cx 6 d_M_laysEarth_115 rfl ?_
                              refine v_iload cx 9 d_M_laysEarth_117 rfl ?_
                              refine v_iload_n cx 2 d_M_laysEarth_119 rfl rfl ?_
                              refine v_callVz0 (st := []) cx (s_M_isRuled hr hy6 hy11 hy29 hrule h) yk_M_isRuled lk_M_311 zl_41 rfl rfl rfl (Nat.le_of_ble_eq_true rfl) ⟨Nat.le_of_ble_eq_true rfl, Nat.le_of_ble_eq_true rfl⟩ ⟨rfl, rfl⟩ ⟨(Nat.le_of_ble_eq_true rfl), (Nat.le_of_ble_eq_true rfl)⟩ d_M_laysEarth_120 (fun r43 σ42 hr43 h => ?_)
                              refine v_if_ne cx 129 d_M_laysEarth_123 (by decide) (zR_b hr43) (fun c44 => ?_) (fun c44 => ?_)
                              · replace h := h.1 c44
                                refine v_aload_n cx 0 d_M_laysEarth_129 rfl rfl ?_
                                refine gf_M_54 cx d_M_laysEarth_130 ?_
                                refine v_iload cx 5 d_M_laysEarth_133 rfl ?_
                                refine v_iconst cx d_M_laysEarth_135 ?_
                                refine v_iadd cx d_M_laysEarth_136 ?_
                                refine v_iload cx 9 d_M_laysEarth_137 rfl ?_
                                refine v_iload cx 7 d_M_laysEarth_139 rfl ?_
                                refine v_iload cx 9 d_M_laysEarth_141 rfl ?_
                                refine v_iadd cx d_M_laysEarth_143 ?_
                                obtain ⟨hr45, h⟩ := h
                                obtain ⟨hr46, h⟩ := h
                                refine v_callSi0 (st := [.ref (ad 55)]) cx (s_M_cell hr45 hy29 hr46 h) yk_M_cell lk_M_315 rfl rfl (Nat.le_of_ble_eq_true rfl) ⟨Nat.le_of_ble_eq_true rfl, Nat.le_of_ble_eq_true rfl⟩ ⟨rfl, rfl⟩ ⟨(Nat.le_of_ble_eq_true rfl), (Nat.le_of_ble_eq_true rfl)⟩ d_M_laysEarth_144 (fun r48 σ47 hr48 h => ?_)
                                obtain ⟨hb49, h⟩ := h
                                refine v_iald cx zl_55 (by decide) hb49.1 hb49.2 d_M_laysEarth_147 (fun hl50 => ?_)
                                refine v_nm (fun x51 ex51 => ?_)
                                replace h := h x51 ex51
                                have hx51 : zR x51 := by rw [ex51]; exact hl50
                                refine v_istore (lv' := [(0, .ref (ad 41)), (1, .int (zI r)), (2, .int (zI rule)), (3, .int (zI x2)), (4, .int (zI x5)), (5, .int (zI y6)), (6, .int (zI y11)), (7, .int (zI y18)), (8, .int (zI y28)), (9, .int (zI y29)), (10, .int (zI x51))]) cx d_M_laysEarth_148 (by decide) rfl rfl ?_
                                refine v_iload cx 10 d_M_laysEarth_150 rfl ?_
                                refine v_ldc cx ct_M_155 d_M_laysEarth_152 ?_
                                refine v_icmp_ge cx 173 d_M_laysEarth_154 (by decide) hx51 ⟨by decide, by decide⟩ (fun c52 => ?_) (fun c52 => ?_)
                                · replace h := h.1 c52
                                  refine v_iinc (lv' := [(0, .ref (ad 41)), (1, .int (zI r)), (2, .int (zI rule)), (3, .int (zI x2)), (4, .int (zI x5)), (5, .int (zI y6)), (6, .int (zI y11)), (7, .int (zI y18)), (8, .int (zI y28)), (9, .int (zI (y29 + 1))), (10, .int (zI x51))]) cx 9 d_M_laysEarth_173 rfl (by decide) rfl rfl ?_
                                  refine v_goto cx 98 d_M_laysEarth_176 (by decide) ?_
                                  refine v_sb (lv' := [(0, .ref (ad 41)), (1, .int (zI r)), (2, .int (zI rule)), (3, .int (zI x2)), (4, .int (zI x5)), (5, .int (zI y6)), (6, .int (zI y11)), (7, .int (zI y18)), (8, .int (zI y28)), (9, .int (zI (y29 + 1)))]) [0, 1, 2, 3, 4, 5, 6, 7, 8, 9] rfl ?_
                                  obtain ⟨hI2, hz54, hm2⟩ := h
                                  exact ih98 _ _ _ (Nat.lt_of_lt_of_le hm2 (Nat.le_of_lt_succ hmm98)) hI2 hy28 hz54
                                · replace h := h.2 c52
                                  refine v_iload cx 8 d_M_laysEarth_157 rfl ?_
                                  refine v_iload cx 10 d_M_laysEarth_159 rfl ?_
                                  refine v_aload_n cx 0 d_M_laysEarth_161 rfl rfl ?_
                                  refine v_iload cx 9 d_M_laysEarth_162 rfl ?_
                                  refine v_callVi0 (st := [.int (zI x51), .int (zI y28)]) cx (s_M_earthOf hy29 h) yk_M_earthOf lk_M_318 zl_41 rfl rfl rfl (Nat.le_of_ble_eq_true rfl) ⟨Nat.le_of_ble_eq_true rfl, Nat.le_of_ble_eq_true rfl⟩ ⟨rfl, rfl⟩ ⟨(Nat.le_of_ble_eq_true rfl), (Nat.le_of_ble_eq_true rfl)⟩ d_M_laysEarth_164 (fun r56 σ55 hr56 h => ?_)
                                  refine v_iadd cx d_M_laysEarth_167 ?_
                                  obtain ⟨hr57, h⟩ := h
                                  refine v_callSi0 (st := []) cx (s_M_lesser hy28 hr57 h) yk_M_lesser lk_M_184 rfl rfl (Nat.le_of_ble_eq_true rfl) ⟨Nat.le_of_ble_eq_true rfl, Nat.le_of_ble_eq_true rfl⟩ ⟨rfl, rfl⟩ ⟨(Nat.le_of_ble_eq_true rfl), (Nat.le_of_ble_eq_true rfl)⟩ d_M_laysEarth_168 (fun r59 σ58 hr59 h => ?_)
                                  refine v_istore (lv' := [(0, .ref (ad 41)), (1, .int (zI r)), (2, .int (zI rule)), (3, .int (zI x2)), (4, .int (zI x5)), (5, .int (zI y6)), (6, .int (zI y11)), (7, .int (zI y18)), (8, .int (zI r59)), (9, .int (zI y29)), (10, .int (zI x51))]) cx d_M_laysEarth_171 (by decide) rfl rfl ?_
                                  refine v_iinc (lv' := [(0, .ref (ad 41)), (1, .int (zI r)), (2, .int (zI rule)), (3, .int (zI x2)), (4, .int (zI x5)), (5, .int (zI y6)), (6, .int (zI y11)), (7, .int (zI y18)), (8, .int (zI r59)), (9, .int (zI (y29 + 1))), (10, .int (zI x51))]) cx 9 d_M_laysEarth_173 rfl (by decide) rfl rfl ?_
                                  refine v_goto cx 98 d_M_laysEarth_176 (by decide) ?_
                                  refine v_sb (lv' := [(0, .ref (ad 41)), (1, .int (zI r)), (2, .int (zI rule)), (3, .int (zI x2)), (4, .int (zI x5)), (5, .int (zI y6)), (6, .int (zI y11)), (7, .int (zI y18)), (8, .int (zI r59)), (9, .int (zI (y29 + 1)))]) [0, 1, 2, 3, 4, 5, 6, 7, 8, 9] rfl ?_
                                  obtain ⟨hI2, hz61, hm2⟩ := h
                                  exact ih98 _ _ _ (Nat.lt_of_lt_of_le hm2 (Nat.le_of_lt_succ hmm98)) hI2 hr59 hz61
                              · replace h := h.2 c44
                                refine v_goto cx 173 d_M_laysEarth_126 (by decide) ?_
                                refine v_iinc (lv' := [(0, .ref (ad 41)), (1, .int (zI r)), (2, .int (zI rule)), (3, .int (zI x2)), (4, .int (zI x5)), (5, .int (zI y6)), (6, .int (zI y11)), (7, .int (zI y18)), (8, .int (zI y28)), (9, .int (zI (y29 + 1)))]) cx 9 d_M_laysEarth_173 rfl (by decide) rfl rfl ?_
                                refine v_goto cx 98 d_M_laysEarth_176 (by decide) ?_
                                obtain ⟨hI2, hz63, hm2⟩ := h
                                exact ih98 _ _ _ (Nat.lt_of_lt_of_le hm2 (Nat.le_of_lt_succ hmm98)) hI2 hy28 hz63
                      exact L98 _ _ _ _ (Nat.lt_succ_self _) h0 ⟨by decide, by decide⟩ hi31
                    · replace h := h.2 c26
                      refine v_iload cx 7 d_M_laysEarth_63 rfl ?_
                      refine v_aload_n cx 0 d_M_laysEarth_65 rfl rfl ?_
                      refine gf_M_7 cx d_M_laysEarth_66 ?_
                      refine v_bipush cx (by decide) d_M_laysEarth_69 ?_
                      refine v_iald cx zl_42 (by decide) (by decide) (by decide) d_M_laysEarth_71 (fun hl64 => ?_)
                      refine v_ineg cx d_M_laysEarth_72 ?_
                      refine v_aload_n cx 0 d_M_laysEarth_73 rfl rfl ?_
                      refine gf_M_7 cx d_M_laysEarth_74 ?_
                      refine v_bipush cx (by decide) d_M_laysEarth_77 ?_
                      refine v_iald cx zl_42 (by decide) (by decide) (by decide) d_M_laysEarth_79 (fun hl65 => ?_)
                      obtain ⟨hr66, h⟩ := h
                      refine v_callSz0 (st := []) cx (s_M_isIn hy18 hr66 hl65 h) yk_M_isIn lk_M_94 rfl rfl (Nat.le_of_ble_eq_true rfl) ⟨Nat.le_of_ble_eq_true rfl, Nat.le_of_ble_eq_true rfl⟩ ⟨rfl, rfl⟩ ⟨(Nat.le_of_ble_eq_true rfl), (Nat.le_of_ble_eq_true rfl)⟩ d_M_laysEarth_80 (fun r68 σ67 hr68 h => ?_)
                      refine v_if_eq cx 90 d_M_laysEarth_83 (by decide) (zR_b hr68) (fun c69 => ?_) (fun c69 => ?_)
                      · replace h := h.1 c69
                        refine v_ldc cx ct_M_155 d_M_laysEarth_90 ?_
                        refine v_istore (lv' := [(0, .ref (ad 41)), (1, .int (zI r)), (2, .int (zI rule)), (3, .int (zI x2)), (4, .int (zI x5)), (5, .int (zI y6)), (6, .int (zI y11)), (7, .int (zI y18)), (8, .int (zI 1000000000))]) cx d_M_laysEarth_92 (by decide) rfl rfl ?_
                        refine v_iload_n cx 3 d_M_laysEarth_94 rfl rfl ?_
                        refine v_ineg cx d_M_laysEarth_95 ?_
                        refine v_nm (fun x70 ex70 => ?_)
                        replace h := h x70 ex70
                        refine v_istore (lv' := [(0, .ref (ad 41)), (1, .int (zI r)), (2, .int (zI rule)), (3, .int (zI x2)), (4, .int (zI x5)), (5, .int (zI y6)), (6, .int (zI y11)), (7, .int (zI y18)), (8, .int (zI 1000000000)), (9, .int (zI x70))]) cx d_M_laysEarth_96 (by decide) rfl rfl ?_
                        obtain ⟨I98, μ98, h0, h⟩ := h
                        obtain ⟨h0, hi74⟩ := h0
                        have L98 : ∀ (N98 : Nat) (y71 y72 : Int) (σ73 : zS), μ98 y71 y72 σ73 < N98 → I98 y71 y72 σ73 → zR y71 → zR y72 → zV Ω Γ rm_M_laysEarth 11 Q 0 0 zLy ad σ73 98 [(0, .ref (ad 41)), (1, .int (zI r)), (2, .int (zI rule)), (3, .int (zI x2)), (4, .int (zI x5)), (5, .int (zI y6)), (6, .int (zI y11)), (7, .int (zI y18)), (8, .int (zI y71)), (9, .int (zI y72))] [] := by
                          intro N98
                          induction N98 with
                          | zero => intro y71 y72 σ73 hm; exact absurd hm (Nat.not_lt_zero _)
                          | succ N98 ih98 =>
                            intro y71 y72 σ73 hmm98 hI hy71 hy72
                            replace h := h y71 y72 σ73 hI hy71 hy72
                            refine v_iload cx 9 d_M_laysEarth_98 rfl ?_
                            refine v_iload_n cx 3 d_M_laysEarth_100 rfl rfl ?_
                            obtain ⟨J179, hJ179, h⟩ := h
                            have G179 : ∀ (w75 : Int) (σ76 : zS), J179 w75 σ76 → zR w75 → zV Ω Γ rm_M_laysEarth 11 Q 0 0 zLy ad σ76 179 [(0, .ref (ad 41)), (1, .int (zI r)), (2, .int (zI rule)), (3, .int (zI x2)), (4, .int (zI x5)), (5, .int (zI y6)), (6, .int (zI y11)), (7, .int (zI y18)), (8, .int (zI w75))] [] := by
                              intro w75 σ76 hJ hw75
                              replace h := hJ179 w75 σ76 hJ hw75
                              refine v_aload_n cx 0 d_M_laysEarth_179 rfl rfl ?_
                              refine gf_M_54 cx d_M_laysEarth_180 ?_
                              refine v_iload cx 5 d_M_laysEarth_183 rfl ?_
                              refine v_iload cx 6 d_M_laysEarth_185 rfl ?_
                              refine v_iload cx 7 d_M_laysEarth_187 rfl ?_
                              refine v_callSi0 (st := [.ref (ad 55)]) cx (s_M_cell hy6 hy11 hy18 h) yk_M_cell lk_M_315 rfl rfl (Nat.le_of_ble_eq_true rfl) ⟨Nat.le_of_ble_eq_true rfl, Nat.le_of_ble_eq_true rfl⟩ ⟨rfl, rfl⟩ ⟨(Nat.le_of_ble_eq_true rfl), (Nat.le_of_ble_eq_true rfl)⟩ d_M_laysEarth_189 (fun r78 σ77 hr78 h => ?_)
                              refine v_iload cx 8 d_M_laysEarth_192 rfl ?_
                              obtain ⟨hb79, h⟩ := h
                              refine v_iast cx zl_55 (by decide) hb79.1 hb79.2 hw75 d_M_laysEarth_194 ?_
                              refine v_ns (fun σ80 eσ80 => ?_)
                              replace h := h σ80 eσ80
                              refine v_iinc (lv' := [(0, .ref (ad 41)), (1, .int (zI r)), (2, .int (zI rule)), (3, .int (zI x2)), (4, .int (zI x5)), (5, .int (zI y6)), (6, .int (zI y11)), (7, .int (zI (y18 + 1))), (8, .int (zI w75))]) cx 7 d_M_laysEarth_195 rfl (by decide) rfl rfl ?_
                              refine v_goto cx 45 d_M_laysEarth_198 (by decide) ?_
                              refine v_sb (lv' := [(0, .ref (ad 41)), (1, .int (zI r)), (2, .int (zI rule)), (3, .int (zI x2)), (4, .int (zI x5)), (5, .int (zI y6)), (6, .int (zI y11)), (7, .int (zI (y18 + 1)))]) [0, 1, 2, 3, 4, 5, 6, 7] rfl ?_
                              obtain ⟨hI2, hz82, hm2⟩ := h
                              exact ih45 _ _ (Nat.lt_of_lt_of_le hm2 (Nat.le_of_lt_succ hmm45)) hI2 hz82
                            refine v_icmp_gt cx 179 d_M_laysEarth_101 (by decide) hy72 hx2 (fun c83 => ?_) (fun c83 => ?_)
                            · replace h := h.1 c83
                              refine v_sb (lv' := [(0, .ref (ad 41)), (1, .int (zI r)), (2, .int (zI rule)), (3, .int (zI x2)), (4, .int (zI x5)), (5, .int (zI y6)), (6, .int (zI y11)), (7, .int (zI y18)), (8, .int (zI y71))]) [0, 1, 2, 3, 4, 5, 6, 7, 8] rfl ?_
                              have hJ2 := h
                              exact G179 _ _ hJ2 hy71
                            · replace h := h.2 c83
                              refine v_iload cx 5 d_M_laysEarth_104 rfl ?_
                              refine v_iload cx 4 d_M_laysEarth_106 rfl ?_
                              refine v_icmp_ge cx 179 d_M_laysEarth_108 (by decide) hy6 hr25 (fun c84 => ?_) (fun c84 => ?_)
                              · replace h := h.1 c84
                                refine v_sb (lv' := [(0, .ref (ad 41)), (1, .int (zI r)), (2, .int (zI rule)), (3, .int (zI x2)), (4, .int (zI x5)), (5, .int (zI y6)), (6, .int (zI y11)), (7, .int (zI y18)), (8, .int (zI y71))]) [0, 1, 2, 3, 4, 5, 6, 7, 8] rfl ?_
                                have hJ2 := h
                                exact G179 _ _ hJ2 hy71
                              · replace h := h.2 c84
                                refine v_aload_n cx 0 d_M_laysEarth_111 rfl rfl ?_
                                refine v_iload_n cx 1 d_M_laysEarth_112 rfl rfl ?_
                                refine v_iload cx 5 d_M_laysEarth_113 rfl ?_
                                refine v_iload cx 6 d_M_laysEarth_115 rfl ?_
                                refine v_iload cx 9 d_M_laysEarth_117 rfl ?_
                                refine v_iload_n cx 2 d_M_laysEarth_119 rfl rfl ?_
                                refine v_callVz0 (st := []) cx (s_M_isRuled hr hy6 hy11 hy72 hrule h) yk_M_isRuled lk_M_311 zl_41 rfl rfl rfl (Nat.le_of_ble_eq_true rfl) ⟨Nat.le_of_ble_eq_true rfl, Nat.le_of_ble_eq_true rfl⟩ ⟨rfl, rfl⟩ ⟨(Nat.le_of_ble_eq_true rfl), (Nat.le_of_ble_eq_true rfl)⟩ d_M_laysEarth_120 (fun r86 σ85 hr86 h => ?_)
                                refine v_if_ne cx 129 d_M_laysEarth_123 (by decide) (zR_b hr86) (fun c87 => ?_) (fun c87 => ?_)
                                · replace h := h.1 c87
                                  refine v_aload_n cx 0 d_M_laysEarth_129 rfl rfl ?_
                                  refine gf_M_54 cx d_M_laysEarth_130 ?_
                                  refine v_iload cx 5 d_M_laysEarth_133 rfl ?_
                                  refine v_iconst cx d_M_laysEarth_135 ?_
                                  refine v_iadd cx d_M_laysEarth_136 ?_
                                  refine v_iload cx 9 d_M_laysEarth_137 rfl ?_
                                  refine v_iload cx 7 d_M_laysEarth_139 rfl ?_
                                  refine v_iload cx 9 d_M_laysEarth_141 rfl ?_
                                  refine v_iadd cx d_M_laysEarth_143 ?_
                                  obtain ⟨hr88, h⟩ := h
                                  obtain ⟨hr89, h⟩ := h
                                  refine v_callSi0 (st := [.ref (ad 55)]) cx (s_M_cell hr88 hy72 hr89 h) yk_M_cell lk_M_315 rfl rfl (Nat.le_of_ble_eq_true rfl) ⟨Nat.le_of_ble_eq_true rfl, Nat.le_of_ble_eq_true rfl⟩ ⟨rfl, rfl⟩ ⟨(Nat.le_of_ble_eq_true rfl), (Nat.le_of_ble_eq_true rfl)⟩ d_M_laysEarth_144 (fun r91 σ90 hr91 h => ?_)
                                  obtain ⟨hb92, h⟩ := h
                                  refine v_iald cx zl_55 (by decide) hb92.1 hb92.2 d_M_laysEarth_147 (fun hl93 => ?_)
                                  refine v_nm (fun x94 ex94 => ?_)
                                  replace h := h x94 ex94
                                  have hx94 : zR x94 := by rw [ex94]; exact hl93
                                  refine v_istore (lv' := [(0, .ref (ad 41)), (1, .int (zI r)), (2, .int (zI rule)), (3, .int (zI x2)), (4, .int (zI x5)), (5, .int (zI y6)), (6, .int (zI y11)), (7, .int (zI y18)), (8, .int (zI y71)), (9, .int (zI y72)), (10, .int (zI x94))]) cx d_M_laysEarth_148 (by decide) rfl rfl ?_
                                  refine v_iload cx 10 d_M_laysEarth_150 rfl ?_
                                  refine v_ldc cx ct_M_155 d_M_laysEarth_152 ?_
                                  refine v_icmp_ge cx 173 d_M_laysEarth_154 (by decide) hx94 ⟨by decide, by decide⟩ (fun c95 => ?_) (fun c95 => ?_)
                                  · replace h := h.1 c95
                                    refine v_iinc (lv' := [(0, .ref (ad 41)), (1, .int (zI r)), (2, .int (zI rule)), (3, .int (zI x2)), (4, .int (zI x5)), (5, .int (zI y6)), (6, .int (zI y11)), (7, .int (zI y18)), (8, .int (zI y71)), (9, .int (zI (y72 + 1))), (10, .int (zI x94))]) cx 9 d_M_laysEarth_173 rfl (by decide) rfl rfl ?_
                                    refine v_goto cx 98 d_M_laysEarth_176 (by decide) ?_
                                    refine v_sb (lv' := [(0, .ref (ad 41)), (1, .int (zI r)), (2, .int (zI rule)), (3, .int (zI x2)), (4, .int (zI x5)), (5, .int (zI y6)), (6, .int (zI y11)), (7, .int (zI y18)), (8, .int (zI y71)), (9, .int (zI (y72 + 1)))]) [0, 1, 2, 3, 4, 5, 6, 7, 8, 9] rfl ?_
                                    obtain ⟨hI2, hz97, hm2⟩ := h
                                    exact ih98 _ _ _ (Nat.lt_of_lt_of_le hm2 (Nat.le_of_lt_succ hmm98)) hI2 hy71 hz97
                                  · replace h := h.2 c95
                                    refine v_iload cx 8 d_M_laysEarth_157 rfl ?_
                                    refine v_iload cx 10 d_M_laysEarth_159 rfl ?_
                                    refine v_aload_n cx 0 d_M_laysEarth_161 rfl rfl ?_
                                    refine v_iload cx 9 d_M_laysEarth_162 rfl ?_
                                    refine v_callVi0 (st := [.int (zI x94), .int (zI y71)]) cx (s_M_earthOf hy72 h) yk_M_earthOf lk_M_318 zl_41 rfl rfl rfl (Nat.le_of_ble_eq_true rfl) ⟨Nat.le_of_ble_eq_true rfl, Nat.le_of_ble_eq_true rfl⟩ ⟨rfl, rfl⟩ ⟨(Nat.le_of_ble_eq_true rfl), (Nat.le_of_ble_eq_true rfl)⟩ d_M_laysEarth_164 (fun r99 σ98 hr99 h => ?_)
                                    refine v_iadd cx d_M_laysEarth_167 ?_
                                    obtain ⟨hr100, h⟩ := h
                                    refine v_callSi0 (st := []) cx (s_M_lesser hy71 hr100 h) yk_M_lesser lk_M_184 rfl rfl (Nat.le_of_ble_eq_true rfl) ⟨Nat.le_of_ble_eq_true rfl, Nat.le_of_ble_eq_true rfl⟩ ⟨rfl, rfl⟩ ⟨(Nat.le_of_ble_eq_true rfl), (Nat.le_of_ble_eq_true rfl)⟩ d_M_laysEarth_168 (fun r102 σ101 hr102 h => ?_)
                                    refine v_istore (lv' := [(0, .ref (ad 41)), (1, .int (zI r)), (2, .int (zI rule)), (3, .int (zI x2)), (4, .int (zI x5)), (5, .int (zI y6)), (6, .int (zI y11)), (7, .int (zI y18)), (8, .int (zI r102)), (9, .int (zI y72)), (10, .int (zI x94))]) cx d_M_laysEarth_171 (by decide) rfl rfl ?_
                                    refine v_iinc (lv' := [(0, .ref (ad 41)), (1, .int (zI r)), (2, .int (zI rule)), (3, .int (zI x2)), (4, .int (zI x5)), (5, .int (zI y6)), (6, .int (zI y11)), (7, .int (zI y18)), (8, .int (zI r102)), (9, .int (zI (y72 + 1))), (10, .int (zI x94))]) cx 9 d_M_laysEarth_173 rfl (by decide) rfl rfl ?_
                                    refine v_goto cx 98 d_M_laysEarth_176 (by decide) ?_
                                    refine v_sb (lv' := [(0, .ref (ad 41)), (1, .int (zI r)), (2, .int (zI rule)), (3, .int (zI x2)), (4, .int (zI x5)), (5, .int (zI y6)), (6, .int (zI y11)), (7, .int (zI y18)), (8, .int (zI r102)), (9, .int (zI (y72 + 1)))]) [0, 1, 2, 3, 4, 5, 6, 7, 8, 9] rfl ?_
                                    obtain ⟨hI2, hz104, hm2⟩ := h
                                    exact ih98 _ _ _ (Nat.lt_of_lt_of_le hm2 (Nat.le_of_lt_succ hmm98)) hI2 hr102 hz104
                                · replace h := h.2 c87
                                  refine v_goto cx 173 d_M_laysEarth_126 (by decide) ?_
                                  refine v_iinc (lv' := [(0, .ref (ad 41)), (1, .int (zI r)), (2, .int (zI rule)), (3, .int (zI x2)), (4, .int (zI x5)), (5, .int (zI y6)), (6, .int (zI y11)), (7, .int (zI y18)), (8, .int (zI y71)), (9, .int (zI (y72 + 1)))]) cx 9 d_M_laysEarth_173 rfl (by decide) rfl rfl ?_
                                  refine v_goto cx 98 d_M_laysEarth_176 (by decide) ?_
                                  obtain ⟨hI2, hz106, hm2⟩ := h
                                  exact ih98 _ _ _ (Nat.lt_of_lt_of_le hm2 (Nat.le_of_lt_succ hmm98)) hI2 hy71 hz106
                        exact L98 _ _ _ _ (Nat.lt_succ_self _) h0 ⟨by decide, by decide⟩ hi74
                      · replace h := h.2 c69
                        refine v_iconst cx d_M_laysEarth_86 ?_
                        refine v_goto cx 92 d_M_laysEarth_87 (by decide) ?_
                        refine v_istore (lv' := [(0, .ref (ad 41)), (1, .int (zI r)), (2, .int (zI rule)), (3, .int (zI x2)), (4, .int (zI x5)), (5, .int (zI y6)), (6, .int (zI y11)), (7, .int (zI y18)), (8, .int (zI 0))]) cx d_M_laysEarth_92 (by decide) rfl rfl ?_
                        refine v_iload_n cx 3 d_M_laysEarth_94 rfl rfl ?_
                        refine v_ineg cx d_M_laysEarth_95 ?_
                        refine v_nm (fun x107 ex107 => ?_)
                        replace h := h x107 ex107
                        refine v_istore (lv' := [(0, .ref (ad 41)), (1, .int (zI r)), (2, .int (zI rule)), (3, .int (zI x2)), (4, .int (zI x5)), (5, .int (zI y6)), (6, .int (zI y11)), (7, .int (zI y18)), (8, .int (zI 0)), (9, .int (zI x107))]) cx d_M_laysEarth_96 (by decide) rfl rfl ?_
                        obtain ⟨I98, μ98, h0, h⟩ := h
                        obtain ⟨h0, hi111⟩ := h0
                        have L98 : ∀ (N98 : Nat) (y108 y109 : Int) (σ110 : zS), μ98 y108 y109 σ110 < N98 → I98 y108 y109 σ110 → zR y108 → zR y109 → zV Ω Γ rm_M_laysEarth 11 Q 0 0 zLy ad σ110 98 [(0, .ref (ad 41)), (1, .int (zI r)), (2, .int (zI rule)), (3, .int (zI x2)), (4, .int (zI x5)), (5, .int (zI y6)), (6, .int (zI y11)), (7, .int (zI y18)), (8, .int (zI y108)), (9, .int (zI y109))] [] := by
                          intro N98
                          induction N98 with
                          | zero => intro y108 y109 σ110 hm; exact absurd hm (Nat.not_lt_zero _)
                          | succ N98 ih98 =>
                            intro y108 y109 σ110 hmm98 hI hy108 hy109
                            replace h := h y108 y109 σ110 hI hy108 hy109
                            refine v_iload cx 9 d_M_laysEarth_98 rfl ?_
                            refine v_iload_n cx 3 d_M_laysEarth_100 rfl rfl ?_
                            obtain ⟨J179, hJ179, h⟩ := h
                            have G179 : ∀ (w112 : Int) (σ113 : zS), J179 w112 σ113 → zR w112 → zV Ω Γ rm_M_laysEarth 11 Q 0 0 zLy ad σ113 179 [(0, .ref (ad 41)), (1, .int (zI r)), (2, .int (zI rule)), (3, .int (zI x2)), (4, .int (zI x5)), (5, .int (zI y6)), (6, .int (zI y11)), (7, .int (zI y18)), (8, .int (zI w112))] [] := by
                              intro w112 σ113 hJ hw112
                              replace h := hJ179 w112 σ113 hJ hw112
                              refine v_aload_n cx 0 d_M_laysEarth_179 rfl rfl ?_
                              refine gf_M_54 cx d_M_laysEarth_180 ?_
                              refine v_iload cx 5 d_M_laysEarth_183 rfl ?_
                              refine v_iload cx 6 d_M_laysEarth_185 rfl ?_
                              refine v_iload cx 7 d_M_laysEarth_187 rfl ?_
                              refine v_callSi0 (st := [.ref (ad 55)]) cx (s_M_cell hy6 hy11 hy18 h) yk_M_cell lk_M_315 rfl rfl (Nat.le_of_ble_eq_true rfl) ⟨Nat.le_of_ble_eq_true rfl, Nat.le_of_ble_eq_true rfl⟩ ⟨rfl, rfl⟩ ⟨(Nat.le_of_ble_eq_true rfl), (Nat.le_of_ble_eq_true rfl)⟩ d_M_laysEarth_189 (fun r115 σ114 hr115 h => ?_)
                              refine v_iload cx 8 d_M_laysEarth_192 rfl ?_
                              obtain ⟨hb116, h⟩ := h
                              refine v_iast cx zl_55 (by decide) hb116.1 hb116.2 hw112 d_M_laysEarth_194 ?_
                              refine v_ns (fun σ117 eσ117 => ?_)
                              replace h := h σ117 eσ117
                              refine v_iinc (lv' := [(0, .ref (ad 41)), (1, .int (zI r)), (2, .int (zI rule)), (3, .int (zI x2)), (4, .int (zI x5)), (5, .int (zI y6)), (6, .int (zI y11)), (7, .int (zI (y18 + 1))), (8, .int (zI w112))]) cx 7 d_M_laysEarth_195 rfl (by decide) rfl rfl ?_
                              refine v_goto cx 45 d_M_laysEarth_198 (by decide) ?_
                              refine v_sb (lv' := [(0, .ref (ad 41)), (1, .int (zI r)), (2, .int (zI rule)), (3, .int (zI x2)), (4, .int (zI x5)), (5, .int (zI y6)), (6, .int (zI y11)), (7, .int (zI (y18 + 1)))]) [0, 1, 2, 3, 4, 5, 6, 7] rfl ?_
                              obtain ⟨hI2, hz119, hm2⟩ := h
                              exact ih45 _ _ (Nat.lt_of_lt_of_le hm2 (Nat.le_of_lt_succ hmm45)) hI2 hz119
                            refine v_icmp_gt cx 179 d_M_laysEarth_101 (by decide) hy109 hx2 (fun c120 => ?_) (fun c120 => ?_)
                            · replace h := h.1 c120
                              refine v_sb (lv' := [(0, .ref (ad 41)), (1, .int (zI r)), (2, .int (zI rule)), (3, .int (zI x2)), (4, .int (zI x5)), (5, .int (zI y6)), (6, .int (zI y11)), (7, .int (zI y18)), (8, .int (zI y108))]) [0, 1, 2, 3, 4, 5, 6, 7, 8] rfl ?_
                              have hJ2 := h
                              exact G179 _ _ hJ2 hy108
                            · replace h := h.2 c120
                              refine v_iload cx 5 d_M_laysEarth_104 rfl ?_
                              refine v_iload cx 4 d_M_laysEarth_106 rfl ?_
                              refine v_icmp_ge cx 179 d_M_laysEarth_108 (by decide) hy6 hr25 (fun c121 => ?_) (fun c121 => ?_)
                              · replace h := h.1 c121
                                refine v_sb (lv' := [(0, .ref (ad 41)), (1, .int (zI r)), (2, .int (zI rule)), (3, .int (zI x2)), (4, .int (zI x5)), (5, .int (zI y6)), (6, .int (zI y11)), (7, .int (zI y18)), (8, .int (zI y108))]) [0, 1, 2, 3, 4, 5, 6, 7, 8] rfl ?_
                                have hJ2 := h
                                exact G179 _ _ hJ2 hy108
                              · replace h := h.2 c121
                                refine v_aload_n cx 0 d_M_laysEarth_111 rfl rfl ?_
                                refine v_iload_n cx 1 d_M_laysEarth_112 rfl rfl ?_
                                refine v_iload cx 5 d_M_laysEarth_113 rfl ?_
                                refine v_iload cx 6 d_M_laysEarth_115 rfl ?_
                                refine v_iload cx 9 d_M_laysEarth_117 rfl ?_
                                refine v_iload_n cx 2 d_M_laysEarth_119 rfl rfl ?_
                                refine v_callVz0 (st := []) cx (s_M_isRuled hr hy6 hy11 hy109 hrule h) yk_M_isRuled lk_M_311 zl_41 rfl rfl rfl (Nat.le_of_ble_eq_true rfl) ⟨Nat.le_of_ble_eq_true rfl, Nat.le_of_ble_eq_true rfl⟩ ⟨rfl, rfl⟩ ⟨(Nat.le_of_ble_eq_true rfl), (Nat.le_of_ble_eq_true rfl)⟩ d_M_laysEarth_120 (fun r123 σ122 hr123 h => ?_)
                                refine v_if_ne cx 129 d_M_laysEarth_123 (by decide) (zR_b hr123) (fun c124 => ?_) (fun c124 => ?_)
                                · replace h := h.1 c124
                                  refine v_aload_n cx 0 d_M_laysEarth_129 rfl rfl ?_
                                  refine gf_M_54 cx d_M_laysEarth_130 ?_
                                  refine v_iload cx 5 d_M_laysEarth_133 rfl ?_
                                  refine v_iconst cx d_M_laysEarth_135 ?_
                                  refine v_iadd cx d_M_laysEarth_136 ?_
                                  refine v_iload cx 9 d_M_laysEarth_137 rfl ?_
                                  refine v_iload cx 7 d_M_laysEarth_139 rfl ?_
                                  refine v_iload cx 9 d_M_laysEarth_141 rfl ?_
                                  refine v_iadd cx d_M_laysEarth_143 ?_
                                  obtain ⟨hr125, h⟩ := h
                                  obtain ⟨hr126, h⟩ := h
                                  refine v_callSi0 (st := [.ref (ad 55)]) cx (s_M_cell hr125 hy109 hr126 h) yk_M_cell lk_M_315 rfl rfl (Nat.le_of_ble_eq_true rfl) ⟨Nat.le_of_ble_eq_true rfl, Nat.le_of_ble_eq_true rfl⟩ ⟨rfl, rfl⟩ ⟨(Nat.le_of_ble_eq_true rfl), (Nat.le_of_ble_eq_true rfl)⟩ d_M_laysEarth_144 (fun r128 σ127 hr128 h => ?_)
                                  obtain ⟨hb129, h⟩ := h
                                  refine v_iald cx zl_55 (by decide) hb129.1 hb129.2 d_M_laysEarth_147 (fun hl130 => ?_)
                                  refine v_nm (fun x131 ex131 => ?_)
                                  replace h := h x131 ex131
                                  have hx131 : zR x131 := by rw [ex131]; exact hl130
                                  refine v_istore (lv' := [(0, .ref (ad 41)), (1, .int (zI r)), (2, .int (zI rule)), (3, .int (zI x2)), (4, .int (zI x5)), (5, .int (zI y6)), (6, .int (zI y11)), (7, .int (zI y18)), (8, .int (zI y108)), (9, .int (zI y109)), (10, .int (zI x131))]) cx d_M_laysEarth_148 (by decide) rfl rfl ?_
                                  refine v_iload cx 10 d_M_laysEarth_150 rfl ?_
                                  refine v_ldc cx ct_M_155 d_M_laysEarth_152 ?_
                                  refine v_icmp_ge cx 173 d_M_laysEarth_154 (by decide) hx131 ⟨by decide, by decide⟩ (fun c132 => ?_) (fun c132 => ?_)
                                  · replace h := h.1 c132
                                    refine v_iinc (lv' := [(0, .ref (ad 41)), (1, .int (zI r)), (2, .int (zI rule)), (3, .int (zI x2)), (4, .int (zI x5)), (5, .int (zI y6)), (6, .int (zI y11)), (7, .int (zI y18)), (8, .int (zI y108)), (9, .int (zI (y109 + 1))), (10, .int (zI x131))]) cx 9 d_M_laysEarth_173 rfl (by decide) rfl rfl ?_
                                    refine v_goto cx 98 d_M_laysEarth_176 (by decide) ?_
                                    refine v_sb (lv' := [(0, .ref (ad 41)), (1, .int (zI r)), (2, .int (zI rule)), (3, .int (zI x2)), (4, .int (zI x5)), (5, .int (zI y6)), (6, .int (zI y11)), (7, .int (zI y18)), (8, .int (zI y108)), (9, .int (zI (y109 + 1)))]) [0, 1, 2, 3, 4, 5, 6, 7, 8, 9] rfl ?_
                                    obtain ⟨hI2, hz134, hm2⟩ := h
                                    exact ih98 _ _ _ (Nat.lt_of_lt_of_le hm2 (Nat.le_of_lt_succ hmm98)) hI2 hy108 hz134
                                  · replace h := h.2 c132
                                    refine v_iload cx 8 d_M_laysEarth_157 rfl ?_
                                    refine v_iload cx 10 d_M_laysEarth_159 rfl ?_
                                    refine v_aload_n cx 0 d_M_laysEarth_161 rfl rfl ?_
                                    refine v_iload cx 9 d_M_laysEarth_162 rfl ?_
                                    refine v_callVi0 (st := [.int (zI x131), .int (zI y108)]) cx (s_M_earthOf hy109 h) yk_M_earthOf lk_M_318 zl_41 rfl rfl rfl (Nat.le_of_ble_eq_true rfl) ⟨Nat.le_of_ble_eq_true rfl, Nat.le_of_ble_eq_true rfl⟩ ⟨rfl, rfl⟩ ⟨(Nat.le_of_ble_eq_true rfl), (Nat.le_of_ble_eq_true rfl)⟩ d_M_laysEarth_164 (fun r136 σ135 hr136 h => ?_)
                                    refine v_iadd cx d_M_laysEarth_167 ?_
                                    obtain ⟨hr137, h⟩ := h
                                    refine v_callSi0 (st := []) cx (s_M_lesser hy108 hr137 h) yk_M_lesser lk_M_184 rfl rfl (Nat.le_of_ble_eq_true rfl) ⟨Nat.le_of_ble_eq_true rfl, Nat.le_of_ble_eq_true rfl⟩ ⟨rfl, rfl⟩ ⟨(Nat.le_of_ble_eq_true rfl), (Nat.le_of_ble_eq_true rfl)⟩ d_M_laysEarth_168 (fun r139 σ138 hr139 h => ?_)
                                    refine v_istore (lv' := [(0, .ref (ad 41)), (1, .int (zI r)), (2, .int (zI rule)), (3, .int (zI x2)), (4, .int (zI x5)), (5, .int (zI y6)), (6, .int (zI y11)), (7, .int (zI y18)), (8, .int (zI r139)), (9, .int (zI y109)), (10, .int (zI x131))]) cx d_M_laysEarth_171 (by decide) rfl rfl ?_
                                    refine v_iinc (lv' := [(0, .ref (ad 41)), (1, .int (zI r)), (2, .int (zI rule)), (3, .int (zI x2)), (4, .int (zI x5)), (5, .int (zI y6)), (6, .int (zI y11)), (7, .int (zI y18)), (8, .int (zI r139)), (9, .int (zI (y109 + 1))), (10, .int (zI x131))]) cx 9 d_M_laysEarth_173 rfl (by decide) rfl rfl ?_
                                    refine v_goto cx 98 d_M_laysEarth_176 (by decide) ?_
                                    refine v_sb (lv' := [(0, .ref (ad 41)), (1, .int (zI r)), (2, .int (zI rule)), (3, .int (zI x2)), (4, .int (zI x5)), (5, .int (zI y6)), (6, .int (zI y11)), (7, .int (zI y18)), (8, .int (zI r139)), (9, .int (zI (y109 + 1)))]) [0, 1, 2, 3, 4, 5, 6, 7, 8, 9] rfl ?_
                                    obtain ⟨hI2, hz141, hm2⟩ := h
                                    exact ih98 _ _ _ (Nat.lt_of_lt_of_le hm2 (Nat.le_of_lt_succ hmm98)) hI2 hr139 hz141
                                · replace h := h.2 c124
                                  refine v_goto cx 173 d_M_laysEarth_126 (by decide) ?_
                                  refine v_iinc (lv' := [(0, .ref (ad 41)), (1, .int (zI r)), (2, .int (zI rule)), (3, .int (zI x2)), (4, .int (zI x5)), (5, .int (zI y6)), (6, .int (zI y11)), (7, .int (zI y18)), (8, .int (zI y108)), (9, .int (zI (y109 + 1)))]) cx 9 d_M_laysEarth_173 rfl (by decide) rfl rfl ?_
                                  refine v_goto cx 98 d_M_laysEarth_176 (by decide) ?_
                                  obtain ⟨hI2, hz143, hm2⟩ := h
                                  exact ih98 _ _ _ (Nat.lt_of_lt_of_le hm2 (Nat.le_of_lt_succ hmm98)) hI2 hy108 hz143
                        exact L98 _ _ _ _ (Nat.lt_succ_self _) h0 ⟨by decide, by decide⟩ hi111
              exact L45 _ _ _ (Nat.lt_succ_self _) h0 hi20
        exact L30 _ _ _ (Nat.lt_succ_self _) h0 hi13
  exact L21 _ _ _ (Nat.lt_succ_self _) h0 hi8
def q_M_grading (r : Int) (rule : Int) (K : Int → zS → Prop) (σ : zS) : Prop :=
  q_M_laysEarth r rule (fun σ1 =>
    ∀ x3 : Int, x3 = -(σ1 42 9) → ∃ (I19 : Int → Int → zS → Prop) (μ19 : Int → Int → zS → Nat), (I19 1000000000 x3 σ1 ∧ zR x3) ∧ ∀ (y4 y5 : Int) (σ6 : zS), I19 y4 y5 σ6 → zR y4 → zR y5 → 
    ((σ6 42 9) < y5 →
      K y4 σ6) ∧ (y5 ≤ (σ6 42 9) →
      q_M_cell 0 y5 y5 (fun r11 σ10 =>
        (0 ≤ r11 ∧ r11 < 68880) ∧ (∀ x14 : Int, x14 = σ10 55 r11 → (1000000000 ≤ x14 →
            I19 y4 (y5 + 1) σ10 ∧ zR (y5 + 1) ∧ μ19 y4 (y5 + 1) σ10 < μ19 y4 y5 σ6) ∧ (x14 < 1000000000 →
            q_M_earthOf y5 (fun r19 σ18 =>
              zR (x14 + r19) ∧ (q_M_lesser y4 (x14 + r19) (fun r22 σ21 =>
                  I19 r22 (y5 + 1) σ21 ∧ zR (y5 + 1) ∧ μ19 r22 (y5 + 1) σ21 < μ19 y4 y5 σ6) σ18)) σ10))) σ6)) σ
abbrev rm_M_grading : Room := { frames := 5, cells := 0, slots := 0, locals := 121 }
set_option maxRecDepth 20000 in
set_option maxHeartbeats 4000000 in
theorem s_M_grading {Ω : zO} {ad : Nat → Nat} {r : Int} {rule : Int} {K : Int → zS → Prop} {σ : zS} (hr : zR r) (hrule : zR rule) (h : q_M_grading r rule K σ) : zMi Ω y_M_grading (.code y_M_grading c_M_grading 6 (some .int)) rm_M_grading zLy ad [.ref (ad 41), .int (zI r), .int (zI rule)] σ K := by
  refine z_ofi (lv := [(0, .ref (ad 41)), (1, .int (zI r)), (2, .int (zI rule))]) (by decide) rfl (Nat.le_of_ble_eq_true rfl) ?_
  intro Γ Q cx rt
  unfold q_M_grading at h
  refine v_aload_n cx 0 d_M_grading_0 rfl rfl ?_
  refine v_iload_n cx 1 d_M_grading_1 rfl rfl ?_
  refine v_iload_n cx 2 d_M_grading_2 rfl rfl ?_
  refine v_callVv0 (st := []) cx (s_M_laysEarth hr hrule h) yk_M_laysEarth lk_M_321 zl_41 rfl rfl rfl (Nat.le_of_ble_eq_true rfl) ⟨Nat.le_of_ble_eq_true rfl, Nat.le_of_ble_eq_true rfl⟩ ⟨rfl, rfl⟩ ⟨(Nat.le_of_ble_eq_true rfl), (Nat.le_of_ble_eq_true rfl)⟩ d_M_grading_3 (fun σ1 h => ?_)
  refine v_ldc cx ct_M_155 d_M_grading_6 ?_
  refine v_istore_n (lv' := [(0, .ref (ad 41)), (1, .int (zI r)), (2, .int (zI rule)), (3, .int (zI 1000000000))]) cx d_M_grading_8 rfl (by decide) rfl rfl ?_
  refine v_aload_n cx 0 d_M_grading_9 rfl rfl ?_
  refine gf_M_7 cx d_M_grading_10 ?_
  refine v_bipush cx (by decide) d_M_grading_13 ?_
  refine v_iald cx zl_42 (by decide) (by decide) (by decide) d_M_grading_15 (fun hl2 => ?_)
  refine v_ineg cx d_M_grading_16 ?_
  refine v_nm (fun x3 ex3 => ?_)
  replace h := h x3 ex3
  refine v_istore (lv' := [(0, .ref (ad 41)), (1, .int (zI r)), (2, .int (zI rule)), (3, .int (zI 1000000000)), (4, .int (zI x3))]) cx d_M_grading_17 (by decide) rfl rfl ?_
  refine v_sb (lv' := [(0, .ref (ad 41)), (3, .int (zI 1000000000)), (4, .int (zI x3))]) [0, 3, 4] rfl ?_
  obtain ⟨I19, μ19, h0, h⟩ := h
  obtain ⟨h0, hi7⟩ := h0
  have L19 : ∀ (N19 : Nat) (y4 y5 : Int) (σ6 : zS), μ19 y4 y5 σ6 < N19 → I19 y4 y5 σ6 → zR y4 → zR y5 → zV Ω Γ rm_M_grading 6 Q 0 0 zLy ad σ6 19 [(0, .ref (ad 41)), (3, .int (zI y4)), (4, .int (zI y5))] [] := by
    intro N19
    induction N19 with
    | zero => intro y4 y5 σ6 hm; exact absurd hm (Nat.not_lt_zero _)
    | succ N19 ih19 =>
      intro y4 y5 σ6 hmm19 hI hy4 hy5
      replace h := h y4 y5 σ6 hI hy4 hy5
      refine v_iload cx 2 d_M_grading_19 rfl ?_
      refine v_aload_n cx 0 d_M_grading_21 rfl rfl ?_
      refine gf_M_7 cx d_M_grading_22 ?_
      refine v_bipush cx (by decide) d_M_grading_25 ?_
      refine v_iald cx zl_42 (by decide) (by decide) (by decide) d_M_grading_27 (fun hl8 => ?_)
      refine v_icmp_gt cx 73 d_M_grading_28 (by decide) hy5 hl8 (fun c9 => ?_) (fun c9 => ?_)
      · replace h := h.1 c9
        refine v_iload_n cx 1 d_M_grading_73 rfl rfl ?_
        exact rt _ _ _ _ _ _ (Nat.le_of_ble_eq_true rfl) (Nat.le_of_ble_eq_true rfl) d_M_grading_74 hy4 h
      · replace h := h.2 c9
        refine v_aload_n cx 0 d_M_grading_31 rfl rfl ?_
        refine gf_M_54 cx d_M_grading_32 ?_
        refine v_iconst cx d_M_grading_35 ?_
        refine v_iload cx 2 d_M_grading_36 rfl ?_
        refine v_iload cx 2 d_M_grading_38 rfl ?_
        refine v_callSi0 (st := [.ref (ad 55)]) cx (s_M_cell ⟨by decide, by decide⟩ hy5 hy5 h) yk_M_cell lk_M_315 rfl rfl (Nat.le_of_ble_eq_true rfl) ⟨Nat.le_of_ble_eq_true rfl, Nat.le_of_ble_eq_true rfl⟩ ⟨rfl, rfl⟩ ⟨(Nat.le_of_ble_eq_true rfl), (Nat.le_of_ble_eq_true rfl)⟩ d_M_grading_40 (fun r11 σ10 hr11 h => ?_)
        obtain ⟨hb12, h⟩ := h
        refine v_iald cx zl_55 (by decide) hb12.1 hb12.2 d_M_grading_43 (fun hl13 => ?_)
        refine v_nm (fun x14 ex14 => ?_)
        replace h := h x14 ex14
        have hx14 : zR x14 := by rw [ex14]; exact hl13
        refine v_istore (lv' := [(0, .ref (ad 41)), (3, .int (zI y4)), (4, .int (zI y5)), (5, .int (zI x14))]) cx d_M_grading_44 (by decide) rfl rfl ?_
        refine v_iload cx 3 d_M_grading_46 rfl ?_
        refine v_ldc cx ct_M_155 d_M_grading_48 ?_
        refine v_icmp_ge cx 67 d_M_grading_50 (by decide) hx14 ⟨by decide, by decide⟩ (fun c15 => ?_) (fun c15 => ?_)
        · replace h := h.1 c15
          refine v_iinc (lv' := [(0, .ref (ad 41)), (3, .int (zI y4)), (4, .int (zI (y5 + 1))), (5, .int (zI x14))]) cx 2 d_M_grading_67 rfl (by decide) rfl rfl ?_
          refine v_goto cx 19 d_M_grading_70 (by decide) ?_
          refine v_sb (lv' := [(0, .ref (ad 41)), (3, .int (zI y4)), (4, .int (zI (y5 + 1)))]) [0, 1, 2] rfl ?_
          obtain ⟨hI2, hz17, hm2⟩ := h
          exact ih19 _ _ _ (Nat.lt_of_lt_of_le hm2 (Nat.le_of_lt_succ hmm19)) hI2 hy4 hz17
        · replace h := h.2 c15
          refine v_iload_n cx 1 d_M_grading_53 rfl rfl ?_
          refine v_iload cx 3 d_M_grading_54 rfl ?_
          refine v_aload_n cx 0 d_M_grading_56 rfl rfl ?_
          refine v_iload cx 2 d_M_grading_57 rfl ?_
          refine v_callVi0 (st := [.int (zI x14), .int (zI y4)]) cx (s_M_earthOf hy5 h) yk_M_earthOf lk_M_318 zl_41 rfl rfl rfl (Nat.le_of_ble_eq_true rfl) ⟨Nat.le_of_ble_eq_true rfl, Nat.le_of_ble_eq_true rfl⟩ ⟨rfl, rfl⟩ ⟨(Nat.le_of_ble_eq_true rfl), (Nat.le_of_ble_eq_true rfl)⟩ d_M_grading_59 (fun r19 σ18 hr19 h => ?_)
          refine v_iadd cx d_M_grading_62 ?_
          obtain ⟨hr20, h⟩ := h
          refine v_callSi0 (st := []) cx (s_M_lesser hy4 hr20 h) yk_M_lesser lk_M_184 rfl rfl (Nat.le_of_ble_eq_true rfl) ⟨Nat.le_of_ble_eq_true rfl, Nat.le_of_ble_eq_true rfl⟩ ⟨rfl, rfl⟩ ⟨(Nat.le_of_ble_eq_true rfl), (Nat.le_of_ble_eq_true rfl)⟩ d_M_grading_63 (fun r22 σ21 hr22 h => ?_)
          refine v_istore_n (lv' := [(0, .ref (ad 41)), (3, .int (zI r22)), (4, .int (zI y5)), (5, .int (zI x14))]) cx d_M_grading_66 rfl (by decide) rfl rfl ?_
          refine v_iinc (lv' := [(0, .ref (ad 41)), (3, .int (zI r22)), (4, .int (zI (y5 + 1))), (5, .int (zI x14))]) cx 2 d_M_grading_67 rfl (by decide) rfl rfl ?_
          refine v_goto cx 19 d_M_grading_70 (by decide) ?_
          refine v_sb (lv' := [(0, .ref (ad 41)), (3, .int (zI r22)), (4, .int (zI (y5 + 1)))]) [0, 1, 2] rfl ?_
          obtain ⟨hI2, hz24, hm2⟩ := h
          exact ih19 _ _ _ (Nat.lt_of_lt_of_le hm2 (Nat.le_of_lt_succ hmm19)) hI2 hr22 hz24
  exact L19 _ _ _ _ (Nat.lt_succ_self _) h0 ⟨by decide, by decide⟩ hi7
def q_M_chooses (r : Int) (rule : Int) (earth : Int) (K : zS → Prop) (σ : zS) : Prop :=
  ∃ (I9 : Int → Int → Int → zS → Prop) (μ9 : Int → Int → Int → zS → Nat), (I9 earth 0 0 σ) ∧ ∀ (y1 y2 y3 : Int) (σ4 : zS), I9 y1 y2 y3 σ4 → zR y1 → zR y2 → zR y3 → 
  q_M_many r (fun r6 σ5 =>
    (r6 ≤ y3 →
      K σ5) ∧ (y3 < r6 →
      ∀ x9 : Int, x9 = -(σ5 42 9) → ∃ (I29 : Int → zS → Prop) (μ29 : Int → zS → Nat), (I29 x9 σ5 ∧ zR x9) ∧ ∀ (y10 : Int) (σ11 : zS), I29 y10 σ11 → zR y10 → 
      ∃ J58 : zS → Prop, (∀ (σ13 : zS), J58 σ13 → 
        zR (y2 + y10) ∧ (q_M_cell y3 y10 (y2 + y10) (fun r16 σ15 =>
            (0 ≤ r16 ∧ r16 < 68880) ∧ (q_M_earthOf y10 (fun r20 σ19 =>
                zR ((σ15 55 r16) + r20) ∧ ((((σ15 55 r16) + r20) = y1 →
                    (0 ≤ y3 ∧ y3 < 40) ∧ (∀ σ24 : zS, σ24 = zU σ19 56 y3 y10 → ∀ x25 : Int, x25 = y2 + y10 → q_M_earthOf y10 (fun r27 σ26 =>
                        ∀ x28 : Int, x28 = y1 - r27 → I9 x28 x25 (y3 + 1) σ26 ∧ zR x28 ∧ zR (y3 + 1) ∧ μ9 x28 x25 (y3 + 1) σ26 < μ9 y1 y2 y3 σ4) σ24)) ∧ (((σ15 55 r16) + r20) ≠ y1 →
                    I29 (y10 + 1) σ19 ∧ zR (y10 + 1) ∧ μ29 (y10 + 1) σ19 < μ29 y10 σ11))) σ15)) σ13)) ∧
      ((y3 ≤ 0 →
          J58 σ11) ∧ (0 < y3 →
          (0 ≤ y3 - 1 ∧ y3 - 1 < 40) ∧ (zR (y3 - 1) ∧ (q_M_isRuled r (y3 - 1) (σ11 56 (y3 - 1)) y10 rule (fun r39 σ38 =>
                (r39 = 0 →
                  I29 (y10 + 1) σ38 ∧ zR (y10 + 1) ∧ μ29 (y10 + 1) σ38 < μ29 y10 σ11) ∧ (r39 ≠ 0 →
                  J58 σ38)) σ11)))))) σ4
abbrev rm_M_chooses : Room := { frames := 4, cells := 0, slots := 0, locals := 91 }
set_option maxRecDepth 20000 in
set_option maxHeartbeats 4000000 in
theorem s_M_chooses {Ω : zO} {ad : Nat → Nat} {r : Int} {rule : Int} {earth : Int} {K : zS → Prop} {σ : zS} (hr : zR r) (hrule : zR rule) (hearth : zR earth) (h : q_M_chooses r rule earth K σ) : zMv Ω y_M_chooses (.code y_M_chooses c_M_chooses 8 none) rm_M_chooses zLy ad [.ref (ad 41), .int (zI r), .int (zI rule), .int (zI earth)] σ K := by
  refine z_ofv (lv := [(0, .ref (ad 41)), (1, .int (zI r)), (2, .int (zI rule)), (3, .int (zI earth))]) (by decide) rfl (Nat.le_of_ble_eq_true rfl) ?_
  intro Γ Q cx rt
  unfold q_M_chooses at h
  refine v_iload_n cx 3 d_M_chooses_0 rfl rfl ?_
  refine v_istore (lv' := [(0, .ref (ad 41)), (1, .int (zI r)), (2, .int (zI rule)), (3, .int (zI earth)), (4, .int (zI earth))]) cx d_M_chooses_1 (by decide) rfl rfl ?_
  refine v_iconst cx d_M_chooses_3 ?_
  refine v_istore (lv' := [(0, .ref (ad 41)), (1, .int (zI r)), (2, .int (zI rule)), (3, .int (zI earth)), (4, .int (zI earth)), (5, .int (zI 0))]) cx d_M_chooses_4 (by decide) rfl rfl ?_
  refine v_iconst cx d_M_chooses_6 ?_
  refine v_istore (lv' := [(0, .ref (ad 41)), (1, .int (zI r)), (2, .int (zI rule)), (3, .int (zI earth)), (4, .int (zI earth)), (5, .int (zI 0)), (6, .int (zI 0))]) cx d_M_chooses_7 (by decide) rfl rfl ?_
  refine v_sb (lv' := [(0, .ref (ad 41)), (1, .int (zI r)), (2, .int (zI rule)), (4, .int (zI earth)), (5, .int (zI 0)), (6, .int (zI 0))]) [0, 1, 2, 4, 5, 6] rfl ?_
  obtain ⟨I9, μ9, h0, h⟩ := h
  have L9 : ∀ (N9 : Nat) (y1 y2 y3 : Int) (σ4 : zS), μ9 y1 y2 y3 σ4 < N9 → I9 y1 y2 y3 σ4 → zR y1 → zR y2 → zR y3 → zV Ω Γ rm_M_chooses 8 Q 0 0 zLy ad σ4 9 [(0, .ref (ad 41)), (1, .int (zI r)), (2, .int (zI rule)), (4, .int (zI y1)), (5, .int (zI y2)), (6, .int (zI y3))] [] := by
    intro N9
    induction N9 with
    | zero => intro y1 y2 y3 σ4 hm; exact absurd hm (Nat.not_lt_zero _)
    | succ N9 ih9 =>
      intro y1 y2 y3 σ4 hmm9 hI hy1 hy2 hy3
      replace h := h y1 y2 y3 σ4 hI hy1 hy2 hy3
      refine v_iload cx 5 d_M_chooses_9 rfl ?_
      refine v_aload_n cx 0 d_M_chooses_11 rfl rfl ?_
      refine v_iload_n cx 1 d_M_chooses_12 rfl rfl ?_
      refine v_callVi0 (st := [.int (zI y3)]) cx (s_M_many hr h) yk_M_many lk_M_129 zl_41 rfl rfl rfl (Nat.le_of_ble_eq_true rfl) ⟨Nat.le_of_ble_eq_true rfl, Nat.le_of_ble_eq_true rfl⟩ ⟨rfl, rfl⟩ ⟨(Nat.le_of_ble_eq_true rfl), (Nat.le_of_ble_eq_true rfl)⟩ d_M_chooses_13 (fun r6 σ5 hr6 h => ?_)
      refine v_icmp_ge cx 126 d_M_chooses_16 (by decide) hy3 hr6 (fun c7 => ?_) (fun c7 => ?_)
      · replace h := h.1 c7
        exact rt _ _ _ _ _ (Nat.le_of_ble_eq_true rfl) (Nat.le_of_ble_eq_true rfl) d_M_chooses_126 h
      · replace h := h.2 c7
        refine v_aload_n cx 0 d_M_chooses_19 rfl rfl ?_
        refine gf_M_7 cx d_M_chooses_20 ?_
        refine v_bipush cx (by decide) d_M_chooses_23 ?_
        refine v_iald cx zl_42 (by decide) (by decide) (by decide) d_M_chooses_25 (fun hl8 => ?_)
        refine v_ineg cx d_M_chooses_26 ?_
        refine v_nm (fun x9 ex9 => ?_)
        replace h := h x9 ex9
        refine v_istore (lv' := [(0, .ref (ad 41)), (1, .int (zI r)), (2, .int (zI rule)), (4, .int (zI y1)), (5, .int (zI y2)), (6, .int (zI y3)), (7, .int (zI x9))]) cx d_M_chooses_27 (by decide) rfl rfl ?_
        obtain ⟨I29, μ29, h0, h⟩ := h
        obtain ⟨h0, hi12⟩ := h0
        have L29 : ∀ (N29 : Nat) (y10 : Int) (σ11 : zS), μ29 y10 σ11 < N29 → I29 y10 σ11 → zR y10 → zV Ω Γ rm_M_chooses 8 Q 0 0 zLy ad σ11 29 [(0, .ref (ad 41)), (1, .int (zI r)), (2, .int (zI rule)), (4, .int (zI y1)), (5, .int (zI y2)), (6, .int (zI y3)), (7, .int (zI y10))] [] := by
          intro N29
          induction N29 with
          | zero => intro y10 σ11 hm; exact absurd hm (Nat.not_lt_zero _)
          | succ N29 ih29 =>
            intro y10 σ11 hmm29 hI hy10
            replace h := h y10 σ11 hI hy10
            refine v_iload cx 5 d_M_chooses_29 rfl ?_
            obtain ⟨J58, hJ58, h⟩ := h
            have G58 : ∀ (σ13 : zS), J58 σ13 → zV Ω Γ rm_M_chooses 8 Q 0 0 zLy ad σ13 58 [(0, .ref (ad 41)), (1, .int (zI r)), (2, .int (zI rule)), (4, .int (zI y1)), (5, .int (zI y2)), (6, .int (zI y3)), (7, .int (zI y10))] [] := by
              intro σ13 hJ 
              replace h := hJ58 σ13 hJ 
              refine v_aload_n cx 0 d_M_chooses_58 rfl rfl ?_
              refine gf_M_54 cx d_M_chooses_59 ?_
              refine v_iload cx 5 d_M_chooses_62 rfl ?_
              refine v_iload cx 6 d_M_chooses_64 rfl ?_
              refine v_iload cx 4 d_M_chooses_66 rfl ?_
              refine v_iload cx 6 d_M_chooses_68 rfl ?_
              refine v_iadd cx d_M_chooses_70 ?_
              obtain ⟨hr14, h⟩ := h
              refine v_callSi0 (st := [.ref (ad 55)]) cx (s_M_cell hy3 hy10 hr14 h) yk_M_cell lk_M_315 rfl rfl (Nat.le_of_ble_eq_true rfl) ⟨Nat.le_of_ble_eq_true rfl, Nat.le_of_ble_eq_true rfl⟩ ⟨rfl, rfl⟩ ⟨(Nat.le_of_ble_eq_true rfl), (Nat.le_of_ble_eq_true rfl)⟩ d_M_chooses_71 (fun r16 σ15 hr16 h => ?_)
              obtain ⟨hb17, h⟩ := h
              refine v_iald cx zl_55 (by decide) hb17.1 hb17.2 d_M_chooses_74 (fun hl18 => ?_)
              refine v_aload_n cx 0 d_M_chooses_75 rfl rfl ?_
              refine v_iload cx 6 d_M_chooses_76 rfl ?_
              refine v_callVi0 (st := [.int (zI (σ15 55 r16))]) cx (s_M_earthOf hy10 h) yk_M_earthOf lk_M_318 zl_41 rfl rfl rfl (Nat.le_of_ble_eq_true rfl) ⟨Nat.le_of_ble_eq_true rfl, Nat.le_of_ble_eq_true rfl⟩ ⟨rfl, rfl⟩ ⟨(Nat.le_of_ble_eq_true rfl), (Nat.le_of_ble_eq_true rfl)⟩ d_M_chooses_78 (fun r20 σ19 hr20 h => ?_)
              refine v_iadd cx d_M_chooses_81 ?_
              refine v_iload cx 3 d_M_chooses_82 rfl ?_
              obtain ⟨hr21, h⟩ := h
              refine v_icmp_eq cx 93 d_M_chooses_84 (by decide) hr21 hy1 (fun c22 => ?_) (fun c22 => ?_)
              · replace h := h.1 c22
                refine v_aload_n cx 0 d_M_chooses_93 rfl rfl ?_
                refine gf_M_57 cx d_M_chooses_94 ?_
                refine v_iload cx 5 d_M_chooses_97 rfl ?_
                refine v_iload cx 6 d_M_chooses_99 rfl ?_
                obtain ⟨hb23, h⟩ := h
                refine v_iast cx zl_56 (by decide) hb23.1 hb23.2 hy10 d_M_chooses_101 ?_
                refine v_ns (fun σ24 eσ24 => ?_)
                replace h := h σ24 eσ24
                refine v_iload cx 4 d_M_chooses_102 rfl ?_
                refine v_iload cx 6 d_M_chooses_104 rfl ?_
                refine v_iadd cx d_M_chooses_106 ?_
                refine v_nm (fun x25 ex25 => ?_)
                replace h := h x25 ex25
                have hx25 : zR x25 := by rw [ex25]; exact hr14
                refine v_istore (lv' := [(0, .ref (ad 41)), (1, .int (zI r)), (2, .int (zI rule)), (4, .int (zI y1)), (5, .int (zI x25)), (6, .int (zI y3)), (7, .int (zI y10))]) cx d_M_chooses_107 (by decide) rfl rfl ?_
                refine v_iload cx 3 d_M_chooses_109 rfl ?_
                refine v_aload_n cx 0 d_M_chooses_111 rfl rfl ?_
                refine v_iload cx 6 d_M_chooses_112 rfl ?_
                refine v_callVi0 (st := [.int (zI y1)]) cx (s_M_earthOf hy10 h) yk_M_earthOf lk_M_318 zl_41 rfl rfl rfl (Nat.le_of_ble_eq_true rfl) ⟨Nat.le_of_ble_eq_true rfl, Nat.le_of_ble_eq_true rfl⟩ ⟨rfl, rfl⟩ ⟨(Nat.le_of_ble_eq_true rfl), (Nat.le_of_ble_eq_true rfl)⟩ d_M_chooses_114 (fun r27 σ26 hr27 h => ?_)
                refine v_isub cx d_M_chooses_117 ?_
                refine v_nm (fun x28 ex28 => ?_)
                replace h := h x28 ex28
                refine v_istore (lv' := [(0, .ref (ad 41)), (1, .int (zI r)), (2, .int (zI rule)), (4, .int (zI x28)), (5, .int (zI x25)), (6, .int (zI y3)), (7, .int (zI y10))]) cx d_M_chooses_118 (by decide) rfl rfl ?_
                refine v_iinc (lv' := [(0, .ref (ad 41)), (1, .int (zI r)), (2, .int (zI rule)), (4, .int (zI x28)), (5, .int (zI x25)), (6, .int (zI (y3 + 1))), (7, .int (zI y10))]) cx 5 d_M_chooses_120 rfl (by decide) rfl rfl ?_
                refine v_goto cx 9 d_M_chooses_123 (by decide) ?_
                refine v_sb (lv' := [(0, .ref (ad 41)), (1, .int (zI r)), (2, .int (zI rule)), (4, .int (zI x28)), (5, .int (zI x25)), (6, .int (zI (y3 + 1)))]) [0, 1, 2, 3, 4, 5] rfl ?_
                obtain ⟨hI2, hz30, hz31, hm2⟩ := h
                exact ih9 _ _ _ _ (Nat.lt_of_lt_of_le hm2 (Nat.le_of_lt_succ hmm9)) hI2 hz30 hx25 hz31
              · replace h := h.2 c22
                refine v_iinc (lv' := [(0, .ref (ad 41)), (1, .int (zI r)), (2, .int (zI rule)), (4, .int (zI y1)), (5, .int (zI y2)), (6, .int (zI y3)), (7, .int (zI (y10 + 1)))]) cx 6 d_M_chooses_87 rfl (by decide) rfl rfl ?_
                refine v_goto cx 29 d_M_chooses_90 (by decide) ?_
                obtain ⟨hI2, hz33, hm2⟩ := h
                exact ih29 _ _ (Nat.lt_of_lt_of_le hm2 (Nat.le_of_lt_succ hmm29)) hI2 hz33
            refine v_if_le cx 58 d_M_chooses_31 (by decide) hy3 (fun c34 => ?_) (fun c34 => ?_)
            · replace h := h.1 c34
              have hJ2 := h
              exact G58 _ hJ2 
            · replace h := h.2 c34
              refine v_aload_n cx 0 d_M_chooses_34 rfl rfl ?_
              refine v_iload_n cx 1 d_M_chooses_35 rfl rfl ?_
              refine v_iload cx 5 d_M_chooses_36 rfl ?_
              refine v_iconst cx d_M_chooses_38 ?_
              refine v_isub cx d_M_chooses_39 ?_
              refine v_aload_n cx 0 d_M_chooses_40 rfl rfl ?_
              refine gf_M_57 cx d_M_chooses_41 ?_
              refine v_iload cx 5 d_M_chooses_44 rfl ?_
              refine v_iconst cx d_M_chooses_46 ?_
              refine v_isub cx d_M_chooses_47 ?_
              obtain ⟨hb35, h⟩ := h
              refine v_iald cx zl_56 (by decide) hb35.1 hb35.2 d_M_chooses_48 (fun hl36 => ?_)
              refine v_iload cx 6 d_M_chooses_49 rfl ?_
              refine v_iload_n cx 2 d_M_chooses_51 rfl rfl ?_
              obtain ⟨hr37, h⟩ := h
              refine v_callVz0 (st := []) cx (s_M_isRuled hr hr37 hl36 hy10 hrule h) yk_M_isRuled lk_M_311 zl_41 rfl rfl rfl (Nat.le_of_ble_eq_true rfl) ⟨Nat.le_of_ble_eq_true rfl, Nat.le_of_ble_eq_true rfl⟩ ⟨rfl, rfl⟩ ⟨(Nat.le_of_ble_eq_true rfl), (Nat.le_of_ble_eq_true rfl)⟩ d_M_chooses_52 (fun r39 σ38 hr39 h => ?_)
              refine v_if_eq cx 87 d_M_chooses_55 (by decide) (zR_b hr39) (fun c40 => ?_) (fun c40 => ?_)
              · replace h := h.1 c40
                refine v_iinc (lv' := [(0, .ref (ad 41)), (1, .int (zI r)), (2, .int (zI rule)), (4, .int (zI y1)), (5, .int (zI y2)), (6, .int (zI y3)), (7, .int (zI (y10 + 1)))]) cx 6 d_M_chooses_87 rfl (by decide) rfl rfl ?_
                refine v_goto cx 29 d_M_chooses_90 (by decide) ?_
                obtain ⟨hI2, hz42, hm2⟩ := h
                exact ih29 _ _ (Nat.lt_of_lt_of_le hm2 (Nat.le_of_lt_succ hmm29)) hI2 hz42
              · replace h := h.2 c40
                have hJ2 := h
                exact G58 _ hJ2 
        exact L29 _ _ _ (Nat.lt_succ_self _) h0 hi12
  exact L9 _ _ _ _ _ (Nat.lt_succ_self _) h0 hearth ⟨by decide, by decide⟩ ⟨by decide, by decide⟩
def q_M_level (road : Int) (rule : Int) (K : Int → zS → Prop) (σ : zS) : Prop :=
  q_M_isRoad road (fun r2 σ1 =>
    ∃ J39 : Int → zS → Prop, (∀ (w3 : Int) (σ4 : zS), J39 w3 σ4 → zR w3 → 
      ∀ σ5 : zS, σ5 = zU σ4 41 0 w3 → ((σ5 41 0) ≤ 0 →
        q_M_grading road rule (fun r9 σ8 =>
          ∃ J70 : Int → Prop, (∀ (w10 : Int), J70 w10 → zR w10 → 
            ∀ σ11 : zS, σ11 = zU σ8 41 0 w10 → ((σ11 41 0) ≤ 0 →
              q_M_remembers (fun σ14 =>
                q_M_chooses road rule r9 (fun σ15 =>
                  ∃ (I96 : Int → zS → Prop) (μ96 : Int → zS → Nat), (I96 0 σ15) ∧ ∀ (y16 : Int) (σ17 : zS), I96 y16 σ17 → zR y16 → 
                  q_M_many road (fun r19 σ18 =>
                    (r19 ≤ y16 →
                      K r9 σ18) ∧ (y16 < r19 →
                      (0 ≤ y16 ∧ y16 < 40) ∧ ((0 ≤ ((175 + (81 * road)) + 41) + y16 ∧ ((175 + (81 * road)) + 41) + y16 < 499) ∧ (∀ σ24 : zS, σ24 = zU σ18 42 (((175 + (81 * road)) + 41) + y16) (σ18 56 y16) → I96 (y16 + 1) σ24 ∧ zR (y16 + 1) ∧ μ96 (y16 + 1) σ24 < μ96 y16 σ17)))) σ17) σ14) σ11) ∧ (0 < (σ11 41 0) →
              K 0 σ11)) ∧
          ((r9 ≠ 1000000000 →
              J70 0) ∧ (r9 = 1000000000 →
              J70 3))) σ5) ∧ (0 < (σ5 41 0) →
        K 0 σ5)) ∧
    ((r2 ≠ 0 →
        q_M_isIn rule 0 99 (fun r30 σ29 =>
          (r30 ≠ 0 →
            q_M_many road (fun r33 σ32 =>
              (r33 ≠ 0 →
                J39 0 σ32) ∧ (r33 = 0 →
                J39 3 σ32)) σ29) ∧ (r30 = 0 →
            J39 2 σ29)) σ1) ∧ (r2 = 0 →
        J39 1 σ1))) σ
abbrev rm_M_level : Room := { frames := 6, cells := 0, slots := 0, locals := 146 }
set_option maxRecDepth 20000 in
set_option maxHeartbeats 4000000 in
theorem s_M_level {Ω : zO} {ad : Nat → Nat} {road : Int} {rule : Int} {K : Int → zS → Prop} {σ : zS} (hroad : zR road) (hrule : zR rule) (h : q_M_level road rule K σ) : zMi Ω y_M_level (.code y_M_level c_M_level 5 (some .int)) rm_M_level zLy ad [.ref (ad 41), .int (zI road), .int (zI rule)] σ K := by
  refine z_ofi (lv := [(0, .ref (ad 41)), (1, .int (zI road)), (2, .int (zI rule))]) (by decide) rfl (Nat.le_of_ble_eq_true rfl) ?_
  intro Γ Q cx rt
  unfold q_M_level at h
  refine v_aload_n cx 0 d_M_level_0 rfl rfl ?_
  refine v_iload_n cx 1 d_M_level_1 rfl rfl ?_
  refine v_callSz0 (st := [.ref (ad 41)]) cx (s_M_isRoad hroad h) yk_M_isRoad lk_M_209 rfl rfl (Nat.le_of_ble_eq_true rfl) ⟨Nat.le_of_ble_eq_true rfl, Nat.le_of_ble_eq_true rfl⟩ ⟨rfl, rfl⟩ ⟨(Nat.le_of_ble_eq_true rfl), (Nat.le_of_ble_eq_true rfl)⟩ d_M_level_2 (fun r2 σ1 hr2 h => ?_)
  obtain ⟨J39, hJ39, h⟩ := h
  have G39 : ∀ (w3 : Int) (σ4 : zS), J39 w3 σ4 → zR w3 → zV Ω Γ rm_M_level 5 Q 0 0 zLy ad σ4 39 [(0, .ref (ad 41)), (1, .int (zI road)), (2, .int (zI rule))] [.int (zI w3), .ref (ad 41)] := by
    intro w3 σ4 hJ hw3
    replace h := hJ39 w3 σ4 hJ hw3
    refine pf_M_87 cx hw3 d_M_level_39 ?_
    refine v_ns (fun σ5 eσ5 => ?_)
    replace h := h σ5 eσ5
    refine v_aload_n cx 0 d_M_level_42 rfl rfl ?_
    refine gf_M_87 cx d_M_level_43 (fun hl6 => ?_)
    refine v_if_le cx 51 d_M_level_46 (by decide) hl6 (fun c7 => ?_) (fun c7 => ?_)
    · replace h := h.1 c7
      refine v_aload_n cx 0 d_M_level_51 rfl rfl ?_
      refine v_iload_n cx 1 d_M_level_52 rfl rfl ?_
      refine v_iload_n cx 2 d_M_level_53 rfl rfl ?_
      refine v_callVi0 (st := []) cx (s_M_grading hroad hrule h) yk_M_grading lk_M_324 zl_41 rfl rfl rfl (Nat.le_of_ble_eq_true rfl) ⟨Nat.le_of_ble_eq_true rfl, Nat.le_of_ble_eq_true rfl⟩ ⟨rfl, rfl⟩ ⟨(Nat.le_of_ble_eq_true rfl), (Nat.le_of_ble_eq_true rfl)⟩ d_M_level_54 (fun r9 σ8 hr9 h => ?_)
      refine v_istore_n (lv' := [(0, .ref (ad 41)), (1, .int (zI road)), (2, .int (zI rule)), (3, .int (zI r9))]) cx d_M_level_57 rfl (by decide) rfl rfl ?_
      refine v_aload_n cx 0 d_M_level_58 rfl rfl ?_
      refine v_iload_n cx 3 d_M_level_59 rfl rfl ?_
      refine v_ldc cx ct_M_155 d_M_level_60 ?_
      obtain ⟨J70, hJ70, h⟩ := h
      have G70 : ∀ (w10 : Int), J70 w10 → zR w10 → zV Ω Γ rm_M_level 5 Q 0 0 zLy ad σ8 70 [(0, .ref (ad 41)), (1, .int (zI road)), (2, .int (zI rule)), (3, .int (zI r9))] [.int (zI w10), .ref (ad 41)] := by
        intro w10 hJ hw10
        replace h := hJ70 w10 hJ hw10
        refine pf_M_87 cx hw10 d_M_level_70 ?_
        refine v_ns (fun σ11 eσ11 => ?_)
        replace h := h σ11 eσ11
        refine v_aload_n cx 0 d_M_level_73 rfl rfl ?_
        refine gf_M_87 cx d_M_level_74 (fun hl12 => ?_)
        refine v_if_le cx 82 d_M_level_77 (by decide) hl12 (fun c13 => ?_) (fun c13 => ?_)
        · replace h := h.1 c13
          refine v_aload_n cx 0 d_M_level_82 rfl rfl ?_
          refine v_callVv0 (st := []) cx (s_M_remembers  h) yk_M_remembers lk_M_296 zl_41 rfl rfl rfl (Nat.le_of_ble_eq_true rfl) ⟨Nat.le_of_ble_eq_true rfl, Nat.le_of_ble_eq_true rfl⟩ ⟨rfl, rfl⟩ ⟨(Nat.le_of_ble_eq_true rfl), (Nat.le_of_ble_eq_true rfl)⟩ d_M_level_83 (fun σ14 h => ?_)
          refine v_aload_n cx 0 d_M_level_86 rfl rfl ?_
          refine v_iload_n cx 1 d_M_level_87 rfl rfl ?_
          refine v_iload_n cx 2 d_M_level_88 rfl rfl ?_
          refine v_iload_n cx 3 d_M_level_89 rfl rfl ?_
          refine v_callVv0 (st := []) cx (s_M_chooses hroad hrule hr9 h) yk_M_chooses lk_M_327 zl_41 rfl rfl rfl (Nat.le_of_ble_eq_true rfl) ⟨Nat.le_of_ble_eq_true rfl, Nat.le_of_ble_eq_true rfl⟩ ⟨rfl, rfl⟩ ⟨(Nat.le_of_ble_eq_true rfl), (Nat.le_of_ble_eq_true rfl)⟩ d_M_level_90 (fun σ15 h => ?_)
          refine v_iconst cx d_M_level_93 ?_
          refine v_istore (lv' := [(0, .ref (ad 41)), (1, .int (zI road)), (2, .int (zI rule)), (3, .int (zI r9)), (4, .int (zI 0))]) cx d_M_level_94 (by decide) rfl rfl ?_
          refine v_sb (lv' := [(0, .ref (ad 41)), (1, .int (zI road)), (3, .int (zI r9)), (4, .int (zI 0))]) [0, 1, 3, 4] rfl ?_
          obtain ⟨I96, μ96, h0, h⟩ := h
          have L96 : ∀ (N96 : Nat) (y16 : Int) (σ17 : zS), μ96 y16 σ17 < N96 → I96 y16 σ17 → zR y16 → zV Ω Γ rm_M_level 5 Q 0 0 zLy ad σ17 96 [(0, .ref (ad 41)), (1, .int (zI road)), (3, .int (zI r9)), (4, .int (zI y16))] [] := by
            intro N96
            induction N96 with
            | zero => intro y16 σ17 hm; exact absurd hm (Nat.not_lt_zero _)
            | succ N96 ih96 =>
              intro y16 σ17 hmm96 hI hy16
              replace h := h y16 σ17 hI hy16
              refine v_iload cx 3 d_M_level_96 rfl ?_
              refine v_aload_n cx 0 d_M_level_98 rfl rfl ?_
              refine v_iload_n cx 1 d_M_level_99 rfl rfl ?_
              refine v_callVi0 (st := [.int (zI y16)]) cx (s_M_many hroad h) yk_M_many lk_M_129 zl_41 rfl rfl rfl (Nat.le_of_ble_eq_true rfl) ⟨Nat.le_of_ble_eq_true rfl, Nat.le_of_ble_eq_true rfl⟩ ⟨rfl, rfl⟩ ⟨(Nat.le_of_ble_eq_true rfl), (Nat.le_of_ble_eq_true rfl)⟩ d_M_level_100 (fun r19 σ18 hr19 h => ?_)
              refine v_icmp_ge cx 138 d_M_level_103 (by decide) hy16 hr19 (fun c20 => ?_) (fun c20 => ?_)
              · replace h := h.1 c20
                refine v_iload_n cx 2 d_M_level_138 rfl rfl ?_
                exact rt _ _ _ _ _ _ (Nat.le_of_ble_eq_true rfl) (Nat.le_of_ble_eq_true rfl) d_M_level_139 hr9 h
              · replace h := h.2 c20
                refine v_aload_n cx 0 d_M_level_106 rfl rfl ?_
                refine gf_M_7 cx d_M_level_107 ?_
                refine v_sipush cx (by decide) d_M_level_110 ?_
                refine v_bipush cx (by decide) d_M_level_113 ?_
                refine v_iload_n cx 1 d_M_level_115 rfl rfl ?_
                refine v_imul cx d_M_level_116 ?_
                refine v_iadd cx d_M_level_117 ?_
                refine v_bipush cx (by decide) d_M_level_118 ?_
                refine v_iadd cx d_M_level_120 ?_
                refine v_iload cx 3 d_M_level_121 rfl ?_
                refine v_iadd cx d_M_level_123 ?_
                refine v_aload_n cx 0 d_M_level_124 rfl rfl ?_
                refine gf_M_57 cx d_M_level_125 ?_
                refine v_iload cx 3 d_M_level_128 rfl ?_
                obtain ⟨hb21, h⟩ := h
                refine v_iald cx zl_56 (by decide) hb21.1 hb21.2 d_M_level_130 (fun hl22 => ?_)
                obtain ⟨hb23, h⟩ := h
                refine v_iast cx zl_42 (by decide) hb23.1 hb23.2 hl22 d_M_level_131 ?_
                refine v_ns (fun σ24 eσ24 => ?_)
                replace h := h σ24 eσ24
                refine v_iinc (lv' := [(0, .ref (ad 41)), (1, .int (zI road)), (3, .int (zI r9)), (4, .int (zI (y16 + 1)))]) cx 3 d_M_level_132 rfl (by decide) rfl rfl ?_
                refine v_goto cx 96 d_M_level_135 (by decide) ?_
                obtain ⟨hI2, hz26, hm2⟩ := h
                exact ih96 _ _ (Nat.lt_of_lt_of_le hm2 (Nat.le_of_lt_succ hmm96)) hI2 hz26
          exact L96 _ _ _ (Nat.lt_succ_self _) h0 ⟨by decide, by decide⟩
        · replace h := h.2 c13
          refine v_iconst cx d_M_level_80 ?_
          exact rt _ _ _ _ _ _ (Nat.le_of_ble_eq_true rfl) (Nat.le_of_ble_eq_true rfl) d_M_level_81 ⟨by decide, by decide⟩ h
      refine v_icmp_ne cx 69 d_M_level_62 (by decide) hr9 ⟨by decide, by decide⟩ (fun c27 => ?_) (fun c27 => ?_)
      · replace h := h.1 c27
        refine v_iconst cx d_M_level_69 ?_
        have hJ2 := h
        exact G70 _ hJ2 ⟨by decide, by decide⟩
      · replace h := h.2 c27
        refine v_iconst cx d_M_level_65 ?_
        refine v_goto cx 70 d_M_level_66 (by decide) ?_
        have hJ2 := h
        exact G70 _ hJ2 ⟨by decide, by decide⟩
    · replace h := h.2 c7
      refine v_iconst cx d_M_level_49 ?_
      exact rt _ _ _ _ _ _ (Nat.le_of_ble_eq_true rfl) (Nat.le_of_ble_eq_true rfl) d_M_level_50 ⟨by decide, by decide⟩ h
  refine v_if_ne cx 12 d_M_level_5 (by decide) (zR_b hr2) (fun c28 => ?_) (fun c28 => ?_)
  · replace h := h.1 c28
    refine v_iload_n cx 2 d_M_level_12 rfl rfl ?_
    refine v_iconst cx d_M_level_13 ?_
    refine v_bipush cx (by decide) d_M_level_14 ?_
    refine v_callSz0 (st := [.ref (ad 41)]) cx (s_M_isIn hrule ⟨by decide, by decide⟩ ⟨by decide, by decide⟩ h) yk_M_isIn lk_M_94 rfl rfl (Nat.le_of_ble_eq_true rfl) ⟨Nat.le_of_ble_eq_true rfl, Nat.le_of_ble_eq_true rfl⟩ ⟨rfl, rfl⟩ ⟨(Nat.le_of_ble_eq_true rfl), (Nat.le_of_ble_eq_true rfl)⟩ d_M_level_16 (fun r30 σ29 hr30 h => ?_)
    refine v_if_ne cx 26 d_M_level_19 (by decide) (zR_b hr30) (fun c31 => ?_) (fun c31 => ?_)
    · replace h := h.1 c31
      refine v_aload_n cx 0 d_M_level_26 rfl rfl ?_
      refine v_iload_n cx 1 d_M_level_27 rfl rfl ?_
      refine v_callVi0 (st := [.ref (ad 41)]) cx (s_M_many hroad h) yk_M_many lk_M_129 zl_41 rfl rfl rfl (Nat.le_of_ble_eq_true rfl) ⟨Nat.le_of_ble_eq_true rfl, Nat.le_of_ble_eq_true rfl⟩ ⟨rfl, rfl⟩ ⟨(Nat.le_of_ble_eq_true rfl), (Nat.le_of_ble_eq_true rfl)⟩ d_M_level_28 (fun r33 σ32 hr33 h => ?_)
      refine v_if_ne cx 38 d_M_level_31 (by decide) hr33 (fun c34 => ?_) (fun c34 => ?_)
      · replace h := h.1 c34
        refine v_iconst cx d_M_level_38 ?_
        have hJ2 := h
        exact G39 _ _ hJ2 ⟨by decide, by decide⟩
      · replace h := h.2 c34
        refine v_iconst cx d_M_level_34 ?_
        refine v_goto cx 39 d_M_level_35 (by decide) ?_
        have hJ2 := h
        exact G39 _ _ hJ2 ⟨by decide, by decide⟩
    · replace h := h.2 c31
      refine v_iconst cx d_M_level_22 ?_
      refine v_goto cx 39 d_M_level_23 (by decide) ?_
      have hJ2 := h
      exact G39 _ _ hJ2 ⟨by decide, by decide⟩
  · replace h := h.2 c28
    refine v_iconst cx d_M_level_8 ?_
    refine v_goto cx 39 d_M_level_9 (by decide) ?_
    have hJ2 := h
    exact G39 _ _ hJ2 ⟨by decide, by decide⟩
def q_M_earth (road : Int) (rule : Int) (K : Int → zS → Prop) (σ : zS) : Prop :=
  q_M_isRoad road (fun r2 σ1 =>
    ∃ J39 : Int → zS → Prop, (∀ (w3 : Int) (σ4 : zS), J39 w3 σ4 → zR w3 → 
      ∀ σ5 : zS, σ5 = zU σ4 41 0 w3 → ((σ5 41 0) ≤ 0 →
        q_M_grading road rule (fun r9 σ8 =>
          (r9 ≠ 1000000000 →
            K r9 σ8) ∧ (r9 = 1000000000 →
            K (-1) σ8)) σ5) ∧ (0 < (σ5 41 0) →
        K 0 σ5)) ∧
    ((r2 ≠ 0 →
        q_M_isIn rule 0 99 (fun r13 σ12 =>
          (r13 ≠ 0 →
            q_M_many road (fun r16 σ15 =>
              (r16 ≠ 0 →
                J39 0 σ15) ∧ (r16 = 0 →
                J39 3 σ15)) σ12) ∧ (r13 = 0 →
            J39 2 σ12)) σ1) ∧ (r2 = 0 →
        J39 1 σ1))) σ
abbrev rm_M_earth : Room := { frames := 6, cells := 0, slots := 0, locals := 146 }
set_option maxRecDepth 20000 in
set_option maxHeartbeats 4000000 in
theorem s_M_earth {Ω : zO} {ad : Nat → Nat} {road : Int} {rule : Int} {K : Int → zS → Prop} {σ : zS} (hroad : zR road) (hrule : zR rule) (h : q_M_earth road rule K σ) : zMi Ω y_M_earth (.code y_M_earth c_M_earth 4 (some .int)) rm_M_earth zLy ad [.ref (ad 41), .int (zI road), .int (zI rule)] σ K := by
  refine z_ofi (lv := [(0, .ref (ad 41)), (1, .int (zI road)), (2, .int (zI rule))]) (by decide) rfl (Nat.le_of_ble_eq_true rfl) ?_
  intro Γ Q cx rt
  unfold q_M_earth at h
  refine v_aload_n cx 0 d_M_earth_0 rfl rfl ?_
  refine v_iload_n cx 1 d_M_earth_1 rfl rfl ?_
  refine v_callSz0 (st := [.ref (ad 41)]) cx (s_M_isRoad hroad h) yk_M_isRoad lk_M_209 rfl rfl (Nat.le_of_ble_eq_true rfl) ⟨Nat.le_of_ble_eq_true rfl, Nat.le_of_ble_eq_true rfl⟩ ⟨rfl, rfl⟩ ⟨(Nat.le_of_ble_eq_true rfl), (Nat.le_of_ble_eq_true rfl)⟩ d_M_earth_2 (fun r2 σ1 hr2 h => ?_)
  obtain ⟨J39, hJ39, h⟩ := h
  have G39 : ∀ (w3 : Int) (σ4 : zS), J39 w3 σ4 → zR w3 → zV Ω Γ rm_M_earth 4 Q 0 0 zLy ad σ4 39 [(0, .ref (ad 41)), (1, .int (zI road)), (2, .int (zI rule))] [.int (zI w3), .ref (ad 41)] := by
    intro w3 σ4 hJ hw3
    replace h := hJ39 w3 σ4 hJ hw3
    refine pf_M_87 cx hw3 d_M_earth_39 ?_
    refine v_ns (fun σ5 eσ5 => ?_)
    replace h := h σ5 eσ5
    refine v_aload_n cx 0 d_M_earth_42 rfl rfl ?_
    refine gf_M_87 cx d_M_earth_43 (fun hl6 => ?_)
    refine v_if_le cx 51 d_M_earth_46 (by decide) hl6 (fun c7 => ?_) (fun c7 => ?_)
    · replace h := h.1 c7
      refine v_aload_n cx 0 d_M_earth_51 rfl rfl ?_
      refine v_iload_n cx 1 d_M_earth_52 rfl rfl ?_
      refine v_iload_n cx 2 d_M_earth_53 rfl rfl ?_
      refine v_callVi0 (st := []) cx (s_M_grading hroad hrule h) yk_M_grading lk_M_324 zl_41 rfl rfl rfl (Nat.le_of_ble_eq_true rfl) ⟨Nat.le_of_ble_eq_true rfl, Nat.le_of_ble_eq_true rfl⟩ ⟨rfl, rfl⟩ ⟨(Nat.le_of_ble_eq_true rfl), (Nat.le_of_ble_eq_true rfl)⟩ d_M_earth_54 (fun r9 σ8 hr9 h => ?_)
      refine v_istore_n (lv' := [(0, .ref (ad 41)), (1, .int (zI road)), (2, .int (zI rule)), (3, .int (zI r9))]) cx d_M_earth_57 rfl (by decide) rfl rfl ?_
      refine v_iload_n cx 3 d_M_earth_58 rfl rfl ?_
      refine v_ldc cx ct_M_155 d_M_earth_59 ?_
      refine v_icmp_ne cx 66 d_M_earth_61 (by decide) hr9 ⟨by decide, by decide⟩ (fun c10 => ?_) (fun c10 => ?_)
      · replace h := h.1 c10
        refine v_iload_n cx 3 d_M_earth_66 rfl rfl ?_
        exact rt _ _ _ _ _ _ (Nat.le_of_ble_eq_true rfl) (Nat.le_of_ble_eq_true rfl) d_M_earth_67 hr9 h
      · replace h := h.2 c10
        refine v_iconst cx d_M_earth_64 ?_
        exact rt _ _ _ _ _ _ (Nat.le_of_ble_eq_true rfl) (Nat.le_of_ble_eq_true rfl) d_M_earth_65 ⟨by decide, by decide⟩ h
    · replace h := h.2 c7
      refine v_iconst cx d_M_earth_49 ?_
      exact rt _ _ _ _ _ _ (Nat.le_of_ble_eq_true rfl) (Nat.le_of_ble_eq_true rfl) d_M_earth_50 ⟨by decide, by decide⟩ h
  refine v_if_ne cx 12 d_M_earth_5 (by decide) (zR_b hr2) (fun c11 => ?_) (fun c11 => ?_)
  · replace h := h.1 c11
    refine v_iload_n cx 2 d_M_earth_12 rfl rfl ?_
    refine v_iconst cx d_M_earth_13 ?_
    refine v_bipush cx (by decide) d_M_earth_14 ?_
    refine v_callSz0 (st := [.ref (ad 41)]) cx (s_M_isIn hrule ⟨by decide, by decide⟩ ⟨by decide, by decide⟩ h) yk_M_isIn lk_M_94 rfl rfl (Nat.le_of_ble_eq_true rfl) ⟨Nat.le_of_ble_eq_true rfl, Nat.le_of_ble_eq_true rfl⟩ ⟨rfl, rfl⟩ ⟨(Nat.le_of_ble_eq_true rfl), (Nat.le_of_ble_eq_true rfl)⟩ d_M_earth_16 (fun r13 σ12 hr13 h => ?_)
    refine v_if_ne cx 26 d_M_earth_19 (by decide) (zR_b hr13) (fun c14 => ?_) (fun c14 => ?_)
    · replace h := h.1 c14
      refine v_aload_n cx 0 d_M_earth_26 rfl rfl ?_
      refine v_iload_n cx 1 d_M_earth_27 rfl rfl ?_
      refine v_callVi0 (st := [.ref (ad 41)]) cx (s_M_many hroad h) yk_M_many lk_M_129 zl_41 rfl rfl rfl (Nat.le_of_ble_eq_true rfl) ⟨Nat.le_of_ble_eq_true rfl, Nat.le_of_ble_eq_true rfl⟩ ⟨rfl, rfl⟩ ⟨(Nat.le_of_ble_eq_true rfl), (Nat.le_of_ble_eq_true rfl)⟩ d_M_earth_28 (fun r16 σ15 hr16 h => ?_)
      refine v_if_ne cx 38 d_M_earth_31 (by decide) hr16 (fun c17 => ?_) (fun c17 => ?_)
      · replace h := h.1 c17
        refine v_iconst cx d_M_earth_38 ?_
        have hJ2 := h
        exact G39 _ _ hJ2 ⟨by decide, by decide⟩
      · replace h := h.2 c17
        refine v_iconst cx d_M_earth_34 ?_
        refine v_goto cx 39 d_M_earth_35 (by decide) ?_
        have hJ2 := h
        exact G39 _ _ hJ2 ⟨by decide, by decide⟩
    · replace h := h.2 c14
      refine v_iconst cx d_M_earth_22 ?_
      refine v_goto cx 39 d_M_earth_23 (by decide) ?_
      have hJ2 := h
      exact G39 _ _ hJ2 ⟨by decide, by decide⟩
  · replace h := h.2 c11
    refine v_iconst cx d_M_earth_8 ?_
    refine v_goto cx 39 d_M_earth_9 (by decide) ?_
    have hJ2 := h
    exact G39 _ _ hJ2 ⟨by decide, by decide⟩
def q_M_ruling (r : Int) (K : Int → zS → Prop) (σ : zS) : Prop :=
  ∃ (I5 : Int → Int → zS → Prop) (μ5 : Int → Int → zS → Nat), (I5 0 100 σ) ∧ ∀ (y1 y2 : Int) (σ3 : zS), I5 y1 y2 σ3 → zR y1 → zR y2 → 
  (y2 ≤ y1 →
    (y1 ≤ 99 →
      K y1 σ3) ∧ (99 < y1 →
      K (-1) σ3)) ∧ (y1 < y2 →
    zR (y1 + y2) ∧ (∀ x7 : Int, x7 = Int.tdiv (y1 + y2) 2 → zR x7 ∧ (q_M_grading r x7 (fun r10 σ9 =>
          (1000000000 ≤ r10 →
            ∀ x12 : Int, x12 = x7 + 1 → I5 x12 y2 σ9 ∧ zR x12 ∧ μ5 x12 y2 σ9 < μ5 y1 y2 σ3) ∧ (r10 < 1000000000 →
            I5 y1 x7 σ9 ∧ μ5 y1 x7 σ9 < μ5 y1 y2 σ3)) σ3)))
abbrev rm_M_ruling : Room := { frames := 6, cells := 0, slots := 0, locals := 146 }
set_option maxRecDepth 20000 in
set_option maxHeartbeats 4000000 in
theorem s_M_ruling {Ω : zO} {ad : Nat → Nat} {r : Int} {K : Int → zS → Prop} {σ : zS} (hr : zR r) (h : q_M_ruling r K σ) : zMi Ω y_M_ruling (.code y_M_ruling c_M_ruling 5 (some .int)) rm_M_ruling zLy ad [.ref (ad 41), .int (zI r)] σ K := by
  refine z_ofi (lv := [(0, .ref (ad 41)), (1, .int (zI r))]) (by decide) rfl (Nat.le_of_ble_eq_true rfl) ?_
  intro Γ Q cx rt
  unfold q_M_ruling at h
  refine v_iconst cx d_M_ruling_0 ?_
  refine v_istore_n (lv' := [(0, .ref (ad 41)), (1, .int (zI r)), (2, .int (zI 0))]) cx d_M_ruling_1 rfl (by decide) rfl rfl ?_
  refine v_bipush cx (by decide) d_M_ruling_2 ?_
  refine v_istore_n (lv' := [(0, .ref (ad 41)), (1, .int (zI r)), (2, .int (zI 0)), (3, .int (zI 100))]) cx d_M_ruling_4 rfl (by decide) rfl rfl ?_
  obtain ⟨I5, μ5, h0, h⟩ := h
  have L5 : ∀ (N5 : Nat) (y1 y2 : Int) (σ3 : zS), μ5 y1 y2 σ3 < N5 → I5 y1 y2 σ3 → zR y1 → zR y2 → zV Ω Γ rm_M_ruling 5 Q 0 0 zLy ad σ3 5 [(0, .ref (ad 41)), (1, .int (zI r)), (2, .int (zI y1)), (3, .int (zI y2))] [] := by
    intro N5
    induction N5 with
    | zero => intro y1 y2 σ3 hm; exact absurd hm (Nat.not_lt_zero _)
    | succ N5 ih5 =>
      intro y1 y2 σ3 hmm5 hI hy1 hy2
      replace h := h y1 y2 σ3 hI hy1 hy2
      refine v_iload_n cx 2 d_M_ruling_5 rfl rfl ?_
      refine v_iload_n cx 3 d_M_ruling_6 rfl rfl ?_
      refine v_icmp_ge cx 43 d_M_ruling_7 (by decide) hy1 hy2 (fun c4 => ?_) (fun c4 => ?_)
      · replace h := h.1 c4
        refine v_iload_n cx 2 d_M_ruling_43 rfl rfl ?_
        refine v_bipush cx (by decide) d_M_ruling_44 ?_
        refine v_icmp_le cx 53 d_M_ruling_46 (by decide) hy1 ⟨by decide, by decide⟩ (fun c5 => ?_) (fun c5 => ?_)
        · replace h := h.1 c5
          refine v_iload_n cx 2 d_M_ruling_53 rfl rfl ?_
          exact rt _ _ _ _ _ _ (Nat.le_of_ble_eq_true rfl) (Nat.le_of_ble_eq_true rfl) d_M_ruling_54 hy1 h
        · replace h := h.2 c5
          refine v_iconst cx d_M_ruling_49 ?_
          refine v_goto cx 54 d_M_ruling_50 (by decide) ?_
          exact rt _ _ _ _ _ _ (Nat.le_of_ble_eq_true rfl) (Nat.le_of_ble_eq_true rfl) d_M_ruling_54 ⟨by decide, by decide⟩ h
      · replace h := h.2 c4
        refine v_iload_n cx 2 d_M_ruling_10 rfl rfl ?_
        refine v_iload_n cx 3 d_M_ruling_11 rfl rfl ?_
        refine v_iadd cx d_M_ruling_12 ?_
        refine v_iconst cx d_M_ruling_13 ?_
        obtain ⟨hr6, h⟩ := h
        refine v_idiv cx d_M_ruling_14 hr6 ⟨by decide, by decide⟩ (by decide) (Or.inr (by decide)) ?_
        refine v_nm (fun x7 ex7 => ?_)
        replace h := h x7 ex7
        refine v_istore (lv' := [(0, .ref (ad 41)), (1, .int (zI r)), (2, .int (zI y1)), (3, .int (zI y2)), (4, .int (zI x7))]) cx d_M_ruling_15 (by decide) rfl rfl ?_
        refine v_aload_n cx 0 d_M_ruling_17 rfl rfl ?_
        refine v_iload_n cx 1 d_M_ruling_18 rfl rfl ?_
        refine v_iload cx 4 d_M_ruling_19 rfl ?_
        obtain ⟨hr8, h⟩ := h
        refine v_callVi0 (st := []) cx (s_M_grading hr hr8 h) yk_M_grading lk_M_324 zl_41 rfl rfl rfl (Nat.le_of_ble_eq_true rfl) ⟨Nat.le_of_ble_eq_true rfl, Nat.le_of_ble_eq_true rfl⟩ ⟨rfl, rfl⟩ ⟨(Nat.le_of_ble_eq_true rfl), (Nat.le_of_ble_eq_true rfl)⟩ d_M_ruling_21 (fun r10 σ9 hr10 h => ?_)
        refine v_ldc cx ct_M_155 d_M_ruling_24 ?_
        refine v_icmp_ge cx 35 d_M_ruling_26 (by decide) hr10 ⟨by decide, by decide⟩ (fun c11 => ?_) (fun c11 => ?_)
        · replace h := h.1 c11
          refine v_iload cx 4 d_M_ruling_35 rfl ?_
          refine v_iconst cx d_M_ruling_37 ?_
          refine v_iadd cx d_M_ruling_38 ?_
          refine v_nm (fun x12 ex12 => ?_)
          replace h := h x12 ex12
          refine v_istore_n (lv' := [(0, .ref (ad 41)), (1, .int (zI r)), (2, .int (zI x12)), (3, .int (zI y2)), (4, .int (zI x7))]) cx d_M_ruling_39 rfl (by decide) rfl rfl ?_
          refine v_goto cx 5 d_M_ruling_40 (by decide) ?_
          refine v_sb (lv' := [(0, .ref (ad 41)), (1, .int (zI r)), (2, .int (zI x12)), (3, .int (zI y2))]) [0, 1, 2, 3] rfl ?_
          obtain ⟨hI2, hz13, hm2⟩ := h
          exact ih5 _ _ _ (Nat.lt_of_lt_of_le hm2 (Nat.le_of_lt_succ hmm5)) hI2 hz13 hy2
        · replace h := h.2 c11
          refine v_iload cx 4 d_M_ruling_29 rfl ?_
          refine v_istore_n (lv' := [(0, .ref (ad 41)), (1, .int (zI r)), (2, .int (zI y1)), (3, .int (zI x7)), (4, .int (zI x7))]) cx d_M_ruling_31 rfl (by decide) rfl rfl ?_
          refine v_goto cx 40 d_M_ruling_32 (by decide) ?_
          refine v_goto cx 5 d_M_ruling_40 (by decide) ?_
          refine v_sb (lv' := [(0, .ref (ad 41)), (1, .int (zI r)), (2, .int (zI y1)), (3, .int (zI x7))]) [0, 1, 2, 3] rfl ?_
          obtain ⟨hI2, hm2⟩ := h
          exact ih5 _ _ _ (Nat.lt_of_lt_of_le hm2 (Nat.le_of_lt_succ hmm5)) hI2 hy1 hr8
  exact L5 _ _ _ _ (Nat.lt_succ_self _) h0 ⟨by decide, by decide⟩ ⟨by decide, by decide⟩
def q_M_best (from_ : Int) (to_ : Int) (kind : Int) (K : Int → zS → Prop) (σ : zS) : Prop :=
  q_M_isPlace from_ (fun r2 σ1 =>
    ∃ J44 : Int → zS → Prop, (∀ (w3 : Int) (σ4 : zS), J44 w3 σ4 → zR w3 → 
      ∀ σ5 : zS, σ5 = zU σ4 41 0 w3 → ((σ5 41 0) ≤ 0 →
        q_M_isWay from_ to_ kind (fun r9 σ8 =>
          (r9 = 0 →
            K (-1) σ8) ∧ (r9 ≠ 0 →
            q_M_measure kind (fun r12 σ11 =>
              K r12 σ11) σ8)) σ5) ∧ (0 < (σ5 41 0) →
        K 0 σ5)) ∧
    (∃ J17 : zS → Prop, (∀ (σ13 : zS), J17 σ13 → 
        J44 1 σ13) ∧
      ((r2 = 0 →
          J17 σ1) ∧ (r2 ≠ 0 →
          q_M_isPlace to_ (fun r16 σ15 =>
            (r16 ≠ 0 →
              q_M_isIn kind 0 5 (fun r19 σ18 =>
                (r19 ≠ 0 →
                  (from_ ≠ to_ →
                    J44 0 σ18) ∧ (from_ = to_ →
                    J44 3 σ18)) ∧ (r19 = 0 →
                  J44 2 σ18)) σ15) ∧ (r16 = 0 →
              J17 σ15)) σ1)))) σ
abbrev rm_M_best : Room := { frames := 7, cells := 0, slots := 0, locals := 180 }
set_option maxRecDepth 20000 in
set_option maxHeartbeats 4000000 in
theorem s_M_best {Ω : zO} {ad : Nat → Nat} {from_ : Int} {to_ : Int} {kind : Int} {K : Int → zS → Prop} {σ : zS} (hfrom_ : zR from_) (hto_ : zR to_) (hkind : zR kind) (h : q_M_best from_ to_ kind K σ) : zMi Ω y_M_best (.code y_M_best c_M_best 4 (some .int)) rm_M_best zLy ad [.ref (ad 41), .int (zI from_), .int (zI to_), .int (zI kind)] σ K := by
  refine z_ofi (lv := [(0, .ref (ad 41)), (1, .int (zI from_)), (2, .int (zI to_)), (3, .int (zI kind))]) (by decide) rfl (Nat.le_of_ble_eq_true rfl) ?_
  intro Γ Q cx rt
  unfold q_M_best at h
  refine v_aload_n cx 0 d_M_best_0 rfl rfl ?_
  refine v_aload_n cx 0 d_M_best_1 rfl rfl ?_
  refine v_iload_n cx 1 d_M_best_2 rfl rfl ?_
  refine v_callVz0 (st := [.ref (ad 41)]) cx (s_M_isPlace hfrom_ h) yk_M_isPlace lk_M_203 zl_41 rfl rfl rfl (Nat.le_of_ble_eq_true rfl) ⟨Nat.le_of_ble_eq_true rfl, Nat.le_of_ble_eq_true rfl⟩ ⟨rfl, rfl⟩ ⟨(Nat.le_of_ble_eq_true rfl), (Nat.le_of_ble_eq_true rfl)⟩ d_M_best_3 (fun r2 σ1 hr2 h => ?_)
  obtain ⟨J44, hJ44, h⟩ := h
  have G44 : ∀ (w3 : Int) (σ4 : zS), J44 w3 σ4 → zR w3 → zV Ω Γ rm_M_best 4 Q 0 0 zLy ad σ4 44 [(0, .ref (ad 41)), (1, .int (zI from_)), (2, .int (zI to_)), (3, .int (zI kind))] [.int (zI w3), .ref (ad 41)] := by
    intro w3 σ4 hJ hw3
    replace h := hJ44 w3 σ4 hJ hw3
    refine pf_M_87 cx hw3 d_M_best_44 ?_
    refine v_ns (fun σ5 eσ5 => ?_)
    replace h := h σ5 eσ5
    refine v_aload_n cx 0 d_M_best_47 rfl rfl ?_
    refine gf_M_87 cx d_M_best_48 (fun hl6 => ?_)
    refine v_if_le cx 56 d_M_best_51 (by decide) hl6 (fun c7 => ?_) (fun c7 => ?_)
    · replace h := h.1 c7
      refine v_aload_n cx 0 d_M_best_56 rfl rfl ?_
      refine v_iload_n cx 1 d_M_best_57 rfl rfl ?_
      refine v_iload_n cx 2 d_M_best_58 rfl rfl ?_
      refine v_iload_n cx 3 d_M_best_59 rfl rfl ?_
      refine v_callVz0 (st := []) cx (s_M_isWay hfrom_ hto_ hkind h) yk_M_isWay lk_M_302 zl_41 rfl rfl rfl (Nat.le_of_ble_eq_true rfl) ⟨Nat.le_of_ble_eq_true rfl, Nat.le_of_ble_eq_true rfl⟩ ⟨rfl, rfl⟩ ⟨(Nat.le_of_ble_eq_true rfl), (Nat.le_of_ble_eq_true rfl)⟩ d_M_best_60 (fun r9 σ8 hr9 h => ?_)
      refine v_if_eq cx 74 d_M_best_63 (by decide) (zR_b hr9) (fun c10 => ?_) (fun c10 => ?_)
      · replace h := h.1 c10
        refine v_iconst cx d_M_best_74 ?_
        exact rt _ _ _ _ _ _ (Nat.le_of_ble_eq_true rfl) (Nat.le_of_ble_eq_true rfl) d_M_best_75 ⟨by decide, by decide⟩ h
      · replace h := h.2 c10
        refine v_aload_n cx 0 d_M_best_66 rfl rfl ?_
        refine v_iload_n cx 3 d_M_best_67 rfl rfl ?_
        refine v_callVi0 (st := []) cx (s_M_measure hkind h) yk_M_measure lk_M_305 zl_41 rfl rfl rfl (Nat.le_of_ble_eq_true rfl) ⟨Nat.le_of_ble_eq_true rfl, Nat.le_of_ble_eq_true rfl⟩ ⟨rfl, rfl⟩ ⟨(Nat.le_of_ble_eq_true rfl), (Nat.le_of_ble_eq_true rfl)⟩ d_M_best_68 (fun r12 σ11 hr12 h => ?_)
        refine v_goto cx 75 d_M_best_71 (by decide) ?_
        exact rt _ _ _ _ _ _ (Nat.le_of_ble_eq_true rfl) (Nat.le_of_ble_eq_true rfl) d_M_best_75 hr12 h
    · replace h := h.2 c7
      refine v_iconst cx d_M_best_54 ?_
      exact rt _ _ _ _ _ _ (Nat.le_of_ble_eq_true rfl) (Nat.le_of_ble_eq_true rfl) d_M_best_55 ⟨by decide, by decide⟩ h
  obtain ⟨J17, hJ17, h⟩ := h
  have G17 : ∀ (σ13 : zS), J17 σ13 → zV Ω Γ rm_M_best 4 Q 0 0 zLy ad σ13 17 [(0, .ref (ad 41)), (1, .int (zI from_)), (2, .int (zI to_)), (3, .int (zI kind))] [.ref (ad 41)] := by
    intro σ13 hJ 
    replace h := hJ17 σ13 hJ 
    refine v_iconst cx d_M_best_17 ?_
    refine v_goto cx 44 d_M_best_18 (by decide) ?_
    have hJ2 := h
    exact G44 _ _ hJ2 ⟨by decide, by decide⟩
  refine v_if_eq cx 17 d_M_best_6 (by decide) (zR_b hr2) (fun c14 => ?_) (fun c14 => ?_)
  · replace h := h.1 c14
    have hJ2 := h
    exact G17 _ hJ2 
  · replace h := h.2 c14
    refine v_aload_n cx 0 d_M_best_9 rfl rfl ?_
    refine v_iload_n cx 2 d_M_best_10 rfl rfl ?_
    refine v_callVz0 (st := [.ref (ad 41)]) cx (s_M_isPlace hto_ h) yk_M_isPlace lk_M_203 zl_41 rfl rfl rfl (Nat.le_of_ble_eq_true rfl) ⟨Nat.le_of_ble_eq_true rfl, Nat.le_of_ble_eq_true rfl⟩ ⟨rfl, rfl⟩ ⟨(Nat.le_of_ble_eq_true rfl), (Nat.le_of_ble_eq_true rfl)⟩ d_M_best_11 (fun r16 σ15 hr16 h => ?_)
    refine v_if_ne cx 21 d_M_best_14 (by decide) (zR_b hr16) (fun c17 => ?_) (fun c17 => ?_)
    · replace h := h.1 c17
      refine v_iload_n cx 3 d_M_best_21 rfl rfl ?_
      refine v_iconst cx d_M_best_22 ?_
      refine v_iconst cx d_M_best_23 ?_
      refine v_callSz0 (st := [.ref (ad 41)]) cx (s_M_isIn hkind ⟨by decide, by decide⟩ ⟨by decide, by decide⟩ h) yk_M_isIn lk_M_94 rfl rfl (Nat.le_of_ble_eq_true rfl) ⟨Nat.le_of_ble_eq_true rfl, Nat.le_of_ble_eq_true rfl⟩ ⟨rfl, rfl⟩ ⟨(Nat.le_of_ble_eq_true rfl), (Nat.le_of_ble_eq_true rfl)⟩ d_M_best_24 (fun r19 σ18 hr19 h => ?_)
      refine v_if_ne cx 34 d_M_best_27 (by decide) (zR_b hr19) (fun c20 => ?_) (fun c20 => ?_)
      · replace h := h.1 c20
        refine v_iload_n cx 1 d_M_best_34 rfl rfl ?_
        refine v_iload_n cx 2 d_M_best_35 rfl rfl ?_
        refine v_icmp_ne cx 43 d_M_best_36 (by decide) hfrom_ hto_ (fun c21 => ?_) (fun c21 => ?_)
        · replace h := h.1 c21
          refine v_iconst cx d_M_best_43 ?_
          have hJ2 := h
          exact G44 _ _ hJ2 ⟨by decide, by decide⟩
        · replace h := h.2 c21
          refine v_iconst cx d_M_best_39 ?_
          refine v_goto cx 44 d_M_best_40 (by decide) ?_
          have hJ2 := h
          exact G44 _ _ hJ2 ⟨by decide, by decide⟩
      · replace h := h.2 c20
        refine v_iconst cx d_M_best_30 ?_
        refine v_goto cx 44 d_M_best_31 (by decide) ?_
        have hJ2 := h
        exact G44 _ _ hJ2 ⟨by decide, by decide⟩
    · replace h := h.2 c17
      have hJ2 := h
      exact G17 _ hJ2 
def q_M_along (from_ : Int) (to_ : Int) (kind : Int) (k_ : Int) (K : Int → zS → Prop) (σ : zS) : Prop :=
  q_M_isPlace from_ (fun r2 σ1 =>
    ∃ J44 : Int → zS → Prop, (∀ (w3 : Int) (σ4 : zS), J44 w3 σ4 → zR w3 → 
      ∀ σ5 : zS, σ5 = zU σ4 41 0 w3 → ((σ5 41 0) ≤ 0 →
        q_M_isWay from_ to_ kind (fun r9 σ8 =>
          (r9 = 0 →
            K (-1) σ8) ∧ (r9 ≠ 0 →
            zR ((σ8 41 20) - 1) ∧ (q_M_isIn k_ 0 ((σ8 41 20) - 1) (fun r14 σ13 =>
                (r14 = 0 →
                  K (-1) σ13) ∧ (r14 ≠ 0 →
                  (0 ≤ k_ ∧ k_ < 700) ∧ (K (σ13 54 k_) σ13))) σ8))) σ5) ∧ (0 < (σ5 41 0) →
        K 0 σ5)) ∧
    (∃ J17 : zS → Prop, (∀ (σ18 : zS), J17 σ18 → 
        J44 1 σ18) ∧
      ((r2 = 0 →
          J17 σ1) ∧ (r2 ≠ 0 →
          q_M_isPlace to_ (fun r21 σ20 =>
            (r21 ≠ 0 →
              q_M_isIn kind 0 5 (fun r24 σ23 =>
                (r24 ≠ 0 →
                  (from_ ≠ to_ →
                    J44 0 σ23) ∧ (from_ = to_ →
                    J44 3 σ23)) ∧ (r24 = 0 →
                  J44 2 σ23)) σ20) ∧ (r21 = 0 →
              J17 σ20)) σ1)))) σ
abbrev rm_M_along : Room := { frames := 7, cells := 0, slots := 0, locals := 180 }
set_option maxRecDepth 20000 in
set_option maxHeartbeats 4000000 in
theorem s_M_along {Ω : zO} {ad : Nat → Nat} {from_ : Int} {to_ : Int} {kind : Int} {k_ : Int} {K : Int → zS → Prop} {σ : zS} (hfrom_ : zR from_) (hto_ : zR to_) (hkind : zR kind) (hk_ : zR k_) (h : q_M_along from_ to_ kind k_ K σ) : zMi Ω y_M_along (.code y_M_along c_M_along 5 (some .int)) rm_M_along zLy ad [.ref (ad 41), .int (zI from_), .int (zI to_), .int (zI kind), .int (zI k_)] σ K := by
  refine z_ofi (lv := [(0, .ref (ad 41)), (1, .int (zI from_)), (2, .int (zI to_)), (3, .int (zI kind)), (4, .int (zI k_))]) (by decide) rfl (Nat.le_of_ble_eq_true rfl) ?_
  intro Γ Q cx rt
  unfold q_M_along at h
  refine v_aload_n cx 0 d_M_along_0 rfl rfl ?_
  refine v_aload_n cx 0 d_M_along_1 rfl rfl ?_
  refine v_iload_n cx 1 d_M_along_2 rfl rfl ?_
  refine v_callVz0 (st := [.ref (ad 41)]) cx (s_M_isPlace hfrom_ h) yk_M_isPlace lk_M_203 zl_41 rfl rfl rfl (Nat.le_of_ble_eq_true rfl) ⟨Nat.le_of_ble_eq_true rfl, Nat.le_of_ble_eq_true rfl⟩ ⟨rfl, rfl⟩ ⟨(Nat.le_of_ble_eq_true rfl), (Nat.le_of_ble_eq_true rfl)⟩ d_M_along_3 (fun r2 σ1 hr2 h => ?_)
  obtain ⟨J44, hJ44, h⟩ := h
  have G44 : ∀ (w3 : Int) (σ4 : zS), J44 w3 σ4 → zR w3 → zV Ω Γ rm_M_along 5 Q 0 0 zLy ad σ4 44 [(0, .ref (ad 41)), (1, .int (zI from_)), (2, .int (zI to_)), (3, .int (zI kind)), (4, .int (zI k_))] [.int (zI w3), .ref (ad 41)] := by
    intro w3 σ4 hJ hw3
    replace h := hJ44 w3 σ4 hJ hw3
    refine pf_M_87 cx hw3 d_M_along_44 ?_
    refine v_ns (fun σ5 eσ5 => ?_)
    replace h := h σ5 eσ5
    refine v_aload_n cx 0 d_M_along_47 rfl rfl ?_
    refine gf_M_87 cx d_M_along_48 (fun hl6 => ?_)
    refine v_if_le cx 56 d_M_along_51 (by decide) hl6 (fun c7 => ?_) (fun c7 => ?_)
    · replace h := h.1 c7
      refine v_aload_n cx 0 d_M_along_56 rfl rfl ?_
      refine v_iload_n cx 1 d_M_along_57 rfl rfl ?_
      refine v_iload_n cx 2 d_M_along_58 rfl rfl ?_
      refine v_iload_n cx 3 d_M_along_59 rfl rfl ?_
      refine v_callVz0 (st := []) cx (s_M_isWay hfrom_ hto_ hkind h) yk_M_isWay lk_M_302 zl_41 rfl rfl rfl (Nat.le_of_ble_eq_true rfl) ⟨Nat.le_of_ble_eq_true rfl, Nat.le_of_ble_eq_true rfl⟩ ⟨rfl, rfl⟩ ⟨(Nat.le_of_ble_eq_true rfl), (Nat.le_of_ble_eq_true rfl)⟩ d_M_along_60 (fun r9 σ8 hr9 h => ?_)
      refine v_if_eq cx 91 d_M_along_63 (by decide) (zR_b hr9) (fun c10 => ?_) (fun c10 => ?_)
      · replace h := h.1 c10
        refine v_iconst cx d_M_along_91 ?_
        exact rt _ _ _ _ _ _ (Nat.le_of_ble_eq_true rfl) (Nat.le_of_ble_eq_true rfl) d_M_along_92 ⟨by decide, by decide⟩ h
      · replace h := h.2 c10
        refine v_iload cx 4 d_M_along_66 rfl ?_
        refine v_iconst cx d_M_along_68 ?_
        refine v_aload_n cx 0 d_M_along_69 rfl rfl ?_
        refine gf_M_172 cx d_M_along_70 (fun hl11 => ?_)
        refine v_iconst cx d_M_along_73 ?_
        refine v_isub cx d_M_along_74 ?_
        obtain ⟨hr12, h⟩ := h
        refine v_callSz0 (st := []) cx (s_M_isIn hk_ ⟨by decide, by decide⟩ hr12 h) yk_M_isIn lk_M_94 rfl rfl (Nat.le_of_ble_eq_true rfl) ⟨Nat.le_of_ble_eq_true rfl, Nat.le_of_ble_eq_true rfl⟩ ⟨rfl, rfl⟩ ⟨(Nat.le_of_ble_eq_true rfl), (Nat.le_of_ble_eq_true rfl)⟩ d_M_along_75 (fun r14 σ13 hr14 h => ?_)
        refine v_if_eq cx 91 d_M_along_78 (by decide) (zR_b hr14) (fun c15 => ?_) (fun c15 => ?_)
        · replace h := h.1 c15
          refine v_iconst cx d_M_along_91 ?_
          exact rt _ _ _ _ _ _ (Nat.le_of_ble_eq_true rfl) (Nat.le_of_ble_eq_true rfl) d_M_along_92 ⟨by decide, by decide⟩ h
        · replace h := h.2 c15
          refine v_aload_n cx 0 d_M_along_81 rfl rfl ?_
          refine gf_M_50 cx d_M_along_82 ?_
          refine v_iload cx 4 d_M_along_85 rfl ?_
          obtain ⟨hb16, h⟩ := h
          refine v_iald cx zl_54 (by decide) hb16.1 hb16.2 d_M_along_87 (fun hl17 => ?_)
          refine v_goto cx 92 d_M_along_88 (by decide) ?_
          exact rt _ _ _ _ _ _ (Nat.le_of_ble_eq_true rfl) (Nat.le_of_ble_eq_true rfl) d_M_along_92 hl17 h
    · replace h := h.2 c7
      refine v_iconst cx d_M_along_54 ?_
      exact rt _ _ _ _ _ _ (Nat.le_of_ble_eq_true rfl) (Nat.le_of_ble_eq_true rfl) d_M_along_55 ⟨by decide, by decide⟩ h
  obtain ⟨J17, hJ17, h⟩ := h
  have G17 : ∀ (σ18 : zS), J17 σ18 → zV Ω Γ rm_M_along 5 Q 0 0 zLy ad σ18 17 [(0, .ref (ad 41)), (1, .int (zI from_)), (2, .int (zI to_)), (3, .int (zI kind)), (4, .int (zI k_))] [.ref (ad 41)] := by
    intro σ18 hJ 
    replace h := hJ17 σ18 hJ 
    refine v_iconst cx d_M_along_17 ?_
    refine v_goto cx 44 d_M_along_18 (by decide) ?_
    have hJ2 := h
    exact G44 _ _ hJ2 ⟨by decide, by decide⟩
  refine v_if_eq cx 17 d_M_along_6 (by decide) (zR_b hr2) (fun c19 => ?_) (fun c19 => ?_)
  · replace h := h.1 c19
    have hJ2 := h
    exact G17 _ hJ2 
  · replace h := h.2 c19
    refine v_aload_n cx 0 d_M_along_9 rfl rfl ?_
    refine v_iload_n cx 2 d_M_along_10 rfl rfl ?_
    refine v_callVz0 (st := [.ref (ad 41)]) cx (s_M_isPlace hto_ h) yk_M_isPlace lk_M_203 zl_41 rfl rfl rfl (Nat.le_of_ble_eq_true rfl) ⟨Nat.le_of_ble_eq_true rfl, Nat.le_of_ble_eq_true rfl⟩ ⟨rfl, rfl⟩ ⟨(Nat.le_of_ble_eq_true rfl), (Nat.le_of_ble_eq_true rfl)⟩ d_M_along_11 (fun r21 σ20 hr21 h => ?_)
    refine v_if_ne cx 21 d_M_along_14 (by decide) (zR_b hr21) (fun c22 => ?_) (fun c22 => ?_)
    · replace h := h.1 c22
      refine v_iload_n cx 3 d_M_along_21 rfl rfl ?_
      refine v_iconst cx d_M_along_22 ?_
      refine v_iconst cx d_M_along_23 ?_
      refine v_callSz0 (st := [.ref (ad 41)]) cx (s_M_isIn hkind ⟨by decide, by decide⟩ ⟨by decide, by decide⟩ h) yk_M_isIn lk_M_94 rfl rfl (Nat.le_of_ble_eq_true rfl) ⟨Nat.le_of_ble_eq_true rfl, Nat.le_of_ble_eq_true rfl⟩ ⟨rfl, rfl⟩ ⟨(Nat.le_of_ble_eq_true rfl), (Nat.le_of_ble_eq_true rfl)⟩ d_M_along_24 (fun r24 σ23 hr24 h => ?_)
      refine v_if_ne cx 34 d_M_along_27 (by decide) (zR_b hr24) (fun c25 => ?_) (fun c25 => ?_)
      · replace h := h.1 c25
        refine v_iload_n cx 1 d_M_along_34 rfl rfl ?_
        refine v_iload_n cx 2 d_M_along_35 rfl rfl ?_
        refine v_icmp_ne cx 43 d_M_along_36 (by decide) hfrom_ hto_ (fun c26 => ?_) (fun c26 => ?_)
        · replace h := h.1 c26
          refine v_iconst cx d_M_along_43 ?_
          have hJ2 := h
          exact G44 _ _ hJ2 ⟨by decide, by decide⟩
        · replace h := h.2 c26
          refine v_iconst cx d_M_along_39 ?_
          refine v_goto cx 44 d_M_along_40 (by decide) ?_
          have hJ2 := h
          exact G44 _ _ hJ2 ⟨by decide, by decide⟩
      · replace h := h.2 c25
        refine v_iconst cx d_M_along_30 ?_
        refine v_goto cx 44 d_M_along_31 (by decide) ?_
        have hJ2 := h
        exact G44 _ _ hJ2 ⟨by decide, by decide⟩
    · replace h := h.2 c22
      have hJ2 := h
      exact G17 _ hJ2 
def q_M_reach (place : Int) (K : Int → zS → Prop) (σ : zS) : Prop :=
  q_M_isPlace place (fun r2 σ1 =>
    ∃ J14 : Int → Prop, (∀ (w3 : Int), J14 w3 → zR w3 → 
      ∀ σ4 : zS, σ4 = zU σ1 41 0 w3 → ((σ4 41 0) ≤ 0 →
        q_M_goesFrom place (fun σ7 =>
          ∃ (I35 : Int → Int → zS → Prop) (μ35 : Int → Int → zS → Nat), (I35 0 0 σ7) ∧ ∀ (y8 y9 : Int) (σ10 : zS), I35 y8 y9 σ10 → zR y8 → zR y9 → 
          q_M_places (fun r12 σ11 =>
            (r12 ≤ y9 →
              K y8 σ11) ∧ (y9 < r12 →
              (y9 = place →
                ∀ x15 : Int, x15 = y8 + 0 → I35 x15 (y9 + 1) σ11 ∧ zR x15 ∧ zR (y9 + 1) ∧ μ35 x15 (y9 + 1) σ11 < μ35 y8 y9 σ10) ∧ (y9 ≠ place →
                q_M_costAt y9 (fun r20 σ19 =>
                  (1000000000 ≤ r20 →
                    ∀ x22 : Int, x22 = y8 + 0 → I35 x22 (y9 + 1) σ19 ∧ zR x22 ∧ zR (y9 + 1) ∧ μ35 x22 (y9 + 1) σ19 < μ35 y8 y9 σ10) ∧ (r20 < 1000000000 →
                    ∀ x26 : Int, x26 = y8 + 1 → I35 x26 (y9 + 1) σ19 ∧ zR x26 ∧ zR (y9 + 1) ∧ μ35 x26 (y9 + 1) σ19 < μ35 y8 y9 σ10)) σ11))) σ10) σ4) ∧ (0 < (σ4 41 0) →
        K 0 σ4)) ∧
    ((r2 = 0 →
        J14 1) ∧ (r2 ≠ 0 →
        J14 0))) σ
abbrev rm_M_reach : Room := { frames := 5, cells := 0, slots := 0, locals := 121 }
set_option maxRecDepth 20000 in
set_option maxHeartbeats 4000000 in
theorem s_M_reach {Ω : zO} {ad : Nat → Nat} {place : Int} {K : Int → zS → Prop} {σ : zS} (hplace : zR place) (h : q_M_reach place K σ) : zMi Ω y_M_reach (.code y_M_reach c_M_reach 4 (some .int)) rm_M_reach zLy ad [.ref (ad 41), .int (zI place)] σ K := by
  refine z_ofi (lv := [(0, .ref (ad 41)), (1, .int (zI place))]) (by decide) rfl (Nat.le_of_ble_eq_true rfl) ?_
  intro Γ Q cx rt
  unfold q_M_reach at h
  refine v_aload_n cx 0 d_M_reach_0 rfl rfl ?_
  refine v_aload_n cx 0 d_M_reach_1 rfl rfl ?_
  refine v_iload_n cx 1 d_M_reach_2 rfl rfl ?_
  refine v_callVz0 (st := [.ref (ad 41)]) cx (s_M_isPlace hplace h) yk_M_isPlace lk_M_203 zl_41 rfl rfl rfl (Nat.le_of_ble_eq_true rfl) ⟨Nat.le_of_ble_eq_true rfl, Nat.le_of_ble_eq_true rfl⟩ ⟨rfl, rfl⟩ ⟨(Nat.le_of_ble_eq_true rfl), (Nat.le_of_ble_eq_true rfl)⟩ d_M_reach_3 (fun r2 σ1 hr2 h => ?_)
  obtain ⟨J14, hJ14, h⟩ := h
  have G14 : ∀ (w3 : Int), J14 w3 → zR w3 → zV Ω Γ rm_M_reach 4 Q 0 0 zLy ad σ1 14 [(0, .ref (ad 41)), (1, .int (zI place))] [.int (zI w3), .ref (ad 41)] := by
    intro w3 hJ hw3
    replace h := hJ14 w3 hJ hw3
    refine pf_M_87 cx hw3 d_M_reach_14 ?_
    refine v_ns (fun σ4 eσ4 => ?_)
    replace h := h σ4 eσ4
    refine v_aload_n cx 0 d_M_reach_17 rfl rfl ?_
    refine gf_M_87 cx d_M_reach_18 (fun hl5 => ?_)
    refine v_if_le cx 26 d_M_reach_21 (by decide) hl5 (fun c6 => ?_) (fun c6 => ?_)
    · replace h := h.1 c6
      refine v_aload_n cx 0 d_M_reach_26 rfl rfl ?_
      refine v_iload_n cx 1 d_M_reach_27 rfl rfl ?_
      refine v_callVv0 (st := []) cx (s_M_goesFrom hplace h) yk_M_goesFrom lk_M_187 zl_41 rfl rfl rfl (Nat.le_of_ble_eq_true rfl) ⟨Nat.le_of_ble_eq_true rfl, Nat.le_of_ble_eq_true rfl⟩ ⟨rfl, rfl⟩ ⟨(Nat.le_of_ble_eq_true rfl), (Nat.le_of_ble_eq_true rfl)⟩ d_M_reach_28 (fun σ7 h => ?_)
      refine v_iconst cx d_M_reach_31 ?_
      refine v_istore_n (lv' := [(0, .ref (ad 41)), (1, .int (zI place)), (2, .int (zI 0))]) cx d_M_reach_32 rfl (by decide) rfl rfl ?_
      refine v_iconst cx d_M_reach_33 ?_
      refine v_istore_n (lv' := [(0, .ref (ad 41)), (1, .int (zI place)), (2, .int (zI 0)), (3, .int (zI 0))]) cx d_M_reach_34 rfl (by decide) rfl rfl ?_
      obtain ⟨I35, μ35, h0, h⟩ := h
      have L35 : ∀ (N35 : Nat) (y8 y9 : Int) (σ10 : zS), μ35 y8 y9 σ10 < N35 → I35 y8 y9 σ10 → zR y8 → zR y9 → zV Ω Γ rm_M_reach 4 Q 0 0 zLy ad σ10 35 [(0, .ref (ad 41)), (1, .int (zI place)), (2, .int (zI y8)), (3, .int (zI y9))] [] := by
        intro N35
        induction N35 with
        | zero => intro y8 y9 σ10 hm; exact absurd hm (Nat.not_lt_zero _)
        | succ N35 ih35 =>
          intro y8 y9 σ10 hmm35 hI hy8 hy9
          replace h := h y8 y9 σ10 hI hy8 hy9
          refine v_iload_n cx 3 d_M_reach_35 rfl rfl ?_
          refine v_aload_n cx 0 d_M_reach_36 rfl rfl ?_
          refine v_callVi0 (st := [.int (zI y9)]) cx (s_M_places  h) yk_M_places lk_M_90 zl_41 rfl rfl rfl (Nat.le_of_ble_eq_true rfl) ⟨Nat.le_of_ble_eq_true rfl, Nat.le_of_ble_eq_true rfl⟩ ⟨rfl, rfl⟩ ⟨(Nat.le_of_ble_eq_true rfl), (Nat.le_of_ble_eq_true rfl)⟩ d_M_reach_37 (fun r12 σ11 hr12 h => ?_)
          refine v_icmp_ge cx 72 d_M_reach_40 (by decide) hy9 hr12 (fun c13 => ?_) (fun c13 => ?_)
          · replace h := h.1 c13
            refine v_iload_n cx 2 d_M_reach_72 rfl rfl ?_
            exact rt _ _ _ _ _ _ (Nat.le_of_ble_eq_true rfl) (Nat.le_of_ble_eq_true rfl) d_M_reach_73 hy8 h
          · replace h := h.2 c13
            refine v_iload_n cx 2 d_M_reach_43 rfl rfl ?_
            refine v_iload_n cx 3 d_M_reach_44 rfl rfl ?_
            refine v_iload_n cx 1 d_M_reach_45 rfl rfl ?_
            refine v_icmp_eq cx 63 d_M_reach_46 (by decide) hy9 hplace (fun c14 => ?_) (fun c14 => ?_)
            · replace h := h.1 c14
              refine v_iconst cx d_M_reach_63 ?_
              refine v_iadd cx d_M_reach_64 ?_
              refine v_nm (fun x15 ex15 => ?_)
              replace h := h x15 ex15
              refine v_istore_n (lv' := [(0, .ref (ad 41)), (1, .int (zI place)), (2, .int (zI x15)), (3, .int (zI y9))]) cx d_M_reach_65 rfl (by decide) rfl rfl ?_
              refine v_iinc (lv' := [(0, .ref (ad 41)), (1, .int (zI place)), (2, .int (zI x15)), (3, .int (zI (y9 + 1)))]) cx 3 d_M_reach_66 rfl (by decide) rfl rfl ?_
              refine v_goto cx 35 d_M_reach_69 (by decide) ?_
              obtain ⟨hI2, hz17, hz18, hm2⟩ := h
              exact ih35 _ _ _ (Nat.lt_of_lt_of_le hm2 (Nat.le_of_lt_succ hmm35)) hI2 hz17 hz18
            · replace h := h.2 c14
              refine v_aload_n cx 0 d_M_reach_49 rfl rfl ?_
              refine v_iload_n cx 3 d_M_reach_50 rfl rfl ?_
              refine v_callVi0 (st := [.int (zI y8)]) cx (s_M_costAt hy9 h) yk_M_costAt lk_M_191 zl_41 rfl rfl rfl (Nat.le_of_ble_eq_true rfl) ⟨Nat.le_of_ble_eq_true rfl, Nat.le_of_ble_eq_true rfl⟩ ⟨rfl, rfl⟩ ⟨(Nat.le_of_ble_eq_true rfl), (Nat.le_of_ble_eq_true rfl)⟩ d_M_reach_51 (fun r20 σ19 hr20 h => ?_)
              refine v_ldc cx ct_M_155 d_M_reach_54 ?_
              refine v_icmp_ge cx 63 d_M_reach_56 (by decide) hr20 ⟨by decide, by decide⟩ (fun c21 => ?_) (fun c21 => ?_)
              · replace h := h.1 c21
                refine v_iconst cx d_M_reach_63 ?_
                refine v_iadd cx d_M_reach_64 ?_
                refine v_nm (fun x22 ex22 => ?_)
                replace h := h x22 ex22
                refine v_istore_n (lv' := [(0, .ref (ad 41)), (1, .int (zI place)), (2, .int (zI x22)), (3, .int (zI y9))]) cx d_M_reach_65 rfl (by decide) rfl rfl ?_
                refine v_iinc (lv' := [(0, .ref (ad 41)), (1, .int (zI place)), (2, .int (zI x22)), (3, .int (zI (y9 + 1)))]) cx 3 d_M_reach_66 rfl (by decide) rfl rfl ?_
                refine v_goto cx 35 d_M_reach_69 (by decide) ?_
                obtain ⟨hI2, hz24, hz25, hm2⟩ := h
                exact ih35 _ _ _ (Nat.lt_of_lt_of_le hm2 (Nat.le_of_lt_succ hmm35)) hI2 hz24 hz25
              · replace h := h.2 c21
                refine v_iconst cx d_M_reach_59 ?_
                refine v_goto cx 64 d_M_reach_60 (by decide) ?_
                refine v_iadd cx d_M_reach_64 ?_
                refine v_nm (fun x26 ex26 => ?_)
                replace h := h x26 ex26
                refine v_istore_n (lv' := [(0, .ref (ad 41)), (1, .int (zI place)), (2, .int (zI x26)), (3, .int (zI y9))]) cx d_M_reach_65 rfl (by decide) rfl rfl ?_
                refine v_iinc (lv' := [(0, .ref (ad 41)), (1, .int (zI place)), (2, .int (zI x26)), (3, .int (zI (y9 + 1)))]) cx 3 d_M_reach_66 rfl (by decide) rfl rfl ?_
                refine v_goto cx 35 d_M_reach_69 (by decide) ?_
                obtain ⟨hI2, hz28, hz29, hm2⟩ := h
                exact ih35 _ _ _ (Nat.lt_of_lt_of_le hm2 (Nat.le_of_lt_succ hmm35)) hI2 hz28 hz29
      exact L35 _ _ _ _ (Nat.lt_succ_self _) h0 ⟨by decide, by decide⟩ ⟨by decide, by decide⟩
    · replace h := h.2 c6
      refine v_iconst cx d_M_reach_24 ?_
      exact rt _ _ _ _ _ _ (Nat.le_of_ble_eq_true rfl) (Nat.le_of_ble_eq_true rfl) d_M_reach_25 ⟨by decide, by decide⟩ h
  refine v_if_eq cx 13 d_M_reach_6 (by decide) (zR_b hr2) (fun c30 => ?_) (fun c30 => ?_)
  · replace h := h.1 c30
    refine v_iconst cx d_M_reach_13 ?_
    have hJ2 := h
    exact G14 _ hJ2 ⟨by decide, by decide⟩
  · replace h := h.2 c30
    refine v_iconst cx d_M_reach_9 ?_
    refine v_goto cx 14 d_M_reach_10 (by decide) ?_
    have hJ2 := h
    exact G14 _ hJ2 ⟨by decide, by decide⟩
