def q_M_grade (from_ : Int) (to_ : Int) (K : Int → zS → Prop) (σ : zS) : Prop :=
  q_M_two from_ to_ (fun r2 σ1 =>
    ∀ σ3 : zS, σ3 = zU σ1 41 0 r2 → ((σ3 41 0) ≤ 0 →
      ∀ x7 : Int, x7 = σ3 42 2 → ∃ (I29 : Int → zS → Prop) (μ29 : Int → zS → Nat), (I29 1 σ3) ∧ ∀ (y8 : Int) (σ9 : zS), I29 y8 σ9 → zR y8 → 
      ∃ J62 : Int → zS → Prop, (∀ (w10 : Int) (σ11 : zS), J62 w10 σ11 → zR w10 → 
        ∀ σ12 : zS, σ12 = zU σ11 42 2 x7 → (w10 ≤ 99 →
          K w10 σ12) ∧ (99 < w10 →
          K (-1) σ12)) ∧
      ((99 < y8 →
          J62 y8 σ9) ∧ (y8 ≤ 99 →
          ∀ σ15 : zS, σ15 = zU σ9 42 2 y8 → q_M_isThere from_ to_ (fun r17 σ16 =>
            (r17 = 0 →
              I29 (y8 + 1) σ16 ∧ zR (y8 + 1) ∧ μ29 (y8 + 1) σ16 < μ29 y8 σ9) ∧ (r17 ≠ 0 →
              J62 y8 σ16)) σ15))) ∧ (0 < (σ3 41 0) →
      K 0 σ3)) σ
abbrev rm_M_grade : Room := { frames := 6, cells := 0, slots := 0, locals := 143 }
set_option maxRecDepth 20000 in
set_option maxHeartbeats 4000000 in
theorem s_M_grade {Ω : zO} {ad : Nat → Nat} {from_ : Int} {to_ : Int} {K : Int → zS → Prop} {σ : zS} (hfrom_ : zR from_) (hto_ : zR to_) (h : q_M_grade from_ to_ K σ) : zMi Ω y_M_grade (.code y_M_grade c_M_grade 5 (some .int)) rm_M_grade zLy ad [.ref (ad 41), .int (zI from_), .int (zI to_)] σ K := by
  refine z_ofi (lv := [(0, .ref (ad 41)), (1, .int (zI from_)), (2, .int (zI to_))]) (by decide) rfl (Nat.le_of_ble_eq_true rfl) ?_
  intro Γ Q cx rt
  unfold q_M_grade at h
  refine v_aload_n cx 0 d_M_grade_0 rfl rfl ?_
  refine v_aload_n cx 0 d_M_grade_1 rfl rfl ?_
  refine v_iload_n cx 1 d_M_grade_2 rfl rfl ?_
  refine v_iload_n cx 2 d_M_grade_3 rfl rfl ?_
  refine v_callVi0 (st := [.ref (ad 41)]) cx (s_M_two hfrom_ hto_ h) yk_M_two lk_M_299 zl_41 rfl rfl rfl (Nat.le_of_ble_eq_true rfl) ⟨Nat.le_of_ble_eq_true rfl, Nat.le_of_ble_eq_true rfl⟩ ⟨rfl, rfl⟩ ⟨(Nat.le_of_ble_eq_true rfl), (Nat.le_of_ble_eq_true rfl)⟩ d_M_grade_4 (fun r2 σ1 hr2 h => ?_)
  refine pf_M_87 cx hr2 d_M_grade_7 ?_
  refine v_ns (fun σ3 eσ3 => ?_)
  replace h := h σ3 eσ3
  refine v_aload_n cx 0 d_M_grade_10 rfl rfl ?_
  refine gf_M_87 cx d_M_grade_11 (fun hl4 => ?_)
  refine v_if_le cx 19 d_M_grade_14 (by decide) hl4 (fun c5 => ?_) (fun c5 => ?_)
  · replace h := h.1 c5
    refine v_aload_n cx 0 d_M_grade_19 rfl rfl ?_
    refine gf_M_7 cx d_M_grade_20 ?_
    refine v_iconst cx d_M_grade_23 ?_
    refine v_iald cx zl_42 (by decide) (by decide) (by decide) d_M_grade_24 (fun hl6 => ?_)
    refine v_nm (fun x7 ex7 => ?_)
    replace h := h x7 ex7
    have hx7 : zR x7 := by rw [ex7]; exact hl6
    refine v_istore_n (lv' := [(0, .ref (ad 41)), (1, .int (zI from_)), (2, .int (zI to_)), (3, .int (zI x7))]) cx d_M_grade_25 rfl (by decide) rfl rfl ?_
    refine v_iconst cx d_M_grade_26 ?_
    refine v_istore (lv' := [(0, .ref (ad 41)), (1, .int (zI from_)), (2, .int (zI to_)), (3, .int (zI x7)), (4, .int (zI 1))]) cx d_M_grade_27 (by decide) rfl rfl ?_
    obtain ⟨I29, μ29, h0, h⟩ := h
    have L29 : ∀ (N29 : Nat) (y8 : Int) (σ9 : zS), μ29 y8 σ9 < N29 → I29 y8 σ9 → zR y8 → zV Ω Γ rm_M_grade 5 Q 0 0 zLy ad σ9 29 [(0, .ref (ad 41)), (1, .int (zI from_)), (2, .int (zI to_)), (3, .int (zI x7)), (4, .int (zI y8))] [] := by
      intro N29
      induction N29 with
      | zero => intro y8 σ9 hm; exact absurd hm (Nat.not_lt_zero _)
      | succ N29 ih29 =>
        intro y8 σ9 hmm29 hI hy8
        replace h := h y8 σ9 hI hy8
        refine v_iload cx 4 d_M_grade_29 rfl ?_
        refine v_bipush cx (by decide) d_M_grade_31 ?_
        obtain ⟨J62, hJ62, h⟩ := h
        have G62 : ∀ (w10 : Int) (σ11 : zS), J62 w10 σ11 → zR w10 → zV Ω Γ rm_M_grade 5 Q 0 0 zLy ad σ11 62 [(0, .ref (ad 41)), (3, .int (zI x7)), (4, .int (zI w10))] [] := by
          intro w10 σ11 hJ hw10
          replace h := hJ62 w10 σ11 hJ hw10
          refine v_aload_n cx 0 d_M_grade_62 rfl rfl ?_
          refine gf_M_7 cx d_M_grade_63 ?_
          refine v_iconst cx d_M_grade_66 ?_
          refine v_iload_n cx 1 d_M_grade_67 rfl rfl ?_
          refine v_iast cx zl_42 (by decide) (by decide) (by decide) hx7 d_M_grade_68 ?_
          refine v_ns (fun σ12 eσ12 => ?_)
          replace h := h σ12 eσ12
          refine v_iload cx 2 d_M_grade_69 rfl ?_
          refine v_bipush cx (by decide) d_M_grade_71 ?_
          refine v_icmp_le cx 80 d_M_grade_73 (by decide) hw10 ⟨by decide, by decide⟩ (fun c13 => ?_) (fun c13 => ?_)
          · replace h := h.1 c13
            refine v_iload cx 2 d_M_grade_80 rfl ?_
            exact rt _ _ _ _ _ _ (Nat.le_of_ble_eq_true rfl) (Nat.le_of_ble_eq_true rfl) d_M_grade_82 hw10 h
          · replace h := h.2 c13
            refine v_iconst cx d_M_grade_76 ?_
            refine v_goto cx 82 d_M_grade_77 (by decide) ?_
            exact rt _ _ _ _ _ _ (Nat.le_of_ble_eq_true rfl) (Nat.le_of_ble_eq_true rfl) d_M_grade_82 ⟨by decide, by decide⟩ h
        refine v_icmp_gt cx 62 d_M_grade_33 (by decide) hy8 ⟨by decide, by decide⟩ (fun c14 => ?_) (fun c14 => ?_)
        · replace h := h.1 c14
          refine v_sb (lv' := [(0, .ref (ad 41)), (3, .int (zI x7)), (4, .int (zI y8))]) [0, 3, 4] rfl ?_
          have hJ2 := h
          exact G62 _ _ hJ2 hy8
        · replace h := h.2 c14
          refine v_aload_n cx 0 d_M_grade_36 rfl rfl ?_
          refine gf_M_7 cx d_M_grade_37 ?_
          refine v_iconst cx d_M_grade_40 ?_
          refine v_iload cx 4 d_M_grade_41 rfl ?_
          refine v_iast cx zl_42 (by decide) (by decide) (by decide) hy8 d_M_grade_43 ?_
          refine v_ns (fun σ15 eσ15 => ?_)
          replace h := h σ15 eσ15
          refine v_aload_n cx 0 d_M_grade_44 rfl rfl ?_
          refine v_iload_n cx 1 d_M_grade_45 rfl rfl ?_
          refine v_iload_n cx 2 d_M_grade_46 rfl rfl ?_
          refine v_callVz0 (st := []) cx (s_M_isThere hfrom_ hto_ h) yk_M_isThere lk_M_331 zl_41 rfl rfl rfl (Nat.le_of_ble_eq_true rfl) ⟨Nat.le_of_ble_eq_true rfl, Nat.le_of_ble_eq_true rfl⟩ ⟨rfl, rfl⟩ ⟨(Nat.le_of_ble_eq_true rfl), (Nat.le_of_ble_eq_true rfl)⟩ d_M_grade_47 (fun r17 σ16 hr17 h => ?_)
          refine v_if_eq cx 56 d_M_grade_50 (by decide) (zR_b hr17) (fun c18 => ?_) (fun c18 => ?_)
          · replace h := h.1 c18
            refine v_iinc (lv' := [(0, .ref (ad 41)), (1, .int (zI from_)), (2, .int (zI to_)), (3, .int (zI x7)), (4, .int (zI (y8 + 1)))]) cx 4 d_M_grade_56 rfl (by decide) rfl rfl ?_
            refine v_goto cx 29 d_M_grade_59 (by decide) ?_
            obtain ⟨hI2, hz20, hm2⟩ := h
            exact ih29 _ _ (Nat.lt_of_lt_of_le hm2 (Nat.le_of_lt_succ hmm29)) hI2 hz20
          · replace h := h.2 c18
            refine v_goto cx 62 d_M_grade_53 (by decide) ?_
            refine v_sb (lv' := [(0, .ref (ad 41)), (3, .int (zI x7)), (4, .int (zI y8))]) [0, 3, 4] rfl ?_
            have hJ2 := h
            exact G62 _ _ hJ2 hy8
    exact L29 _ _ _ (Nat.lt_succ_self _) h0 ⟨by decide, by decide⟩
  · replace h := h.2 c5
    refine v_iconst cx d_M_grade_17 ?_
    exact rt _ _ _ _ _ _ (Nat.le_of_ble_eq_true rfl) (Nat.le_of_ble_eq_true rfl) d_M_grade_18 ⟨by decide, by decide⟩ h
def q_M_gate (from_ : Int) (to_ : Int) (K : Int → zS → Prop) (σ : zS) : Prop :=
  q_M_two from_ to_ (fun r2 σ1 =>
    ∀ σ3 : zS, σ3 = zU σ1 41 0 r2 → ((σ3 41 0) ≤ 0 →
      q_M_isThere from_ to_ (fun r7 σ6 =>
        (r7 ≠ 0 →
          ∃ (I35 : Int → Int → zS → Prop) (μ35 : Int → Int → zS → Nat), (I35 (-1) 0 σ6) ∧ ∀ (y9 y10 : Int) (σ11 : zS), I35 y9 y10 σ11 → zR y9 → zR y10 → 
          q_M_places (fun r13 σ12 =>
            (r13 ≤ y10 →
              K y9 σ12) ∧ (y10 < r13 →
              (y9 ≠ (-1) →
                K y9 σ12) ∧ (y9 = (-1) →
                (y10 = from_ →
                  I35 y9 (y10 + 1) σ12 ∧ zR (y10 + 1) ∧ μ35 y9 (y10 + 1) σ12 < μ35 y9 y10 σ11) ∧ (y10 ≠ from_ →
                  (y10 = to_ →
                    I35 y9 (y10 + 1) σ12 ∧ zR (y10 + 1) ∧ μ35 y9 (y10 + 1) σ12 < μ35 y9 y10 σ11) ∧ (y10 ≠ to_ →
                    q_M_isWet y10 (fun r23 σ22 =>
                      (r23 = 0 →
                        (0 ≤ 94 + y10 ∧ 94 + y10 < 499) ∧ (∀ σ26 : zS, σ26 = zU σ22 42 (94 + y10) 1 → q_M_isThere from_ to_ (fun r28 σ27 =>
                            (r28 ≠ 0 →
                              ∀ σ30 : zS, σ30 = zU σ27 42 (94 + y10) 0 → I35 y9 (y10 + 1) σ30 ∧ zR (y10 + 1) ∧ μ35 y9 (y10 + 1) σ30 < μ35 y9 y10 σ11) ∧ (r28 = 0 →
                              ∀ σ33 : zS, σ33 = zU σ27 42 (94 + y10) 0 → I35 y10 (y10 + 1) σ33 ∧ zR (y10 + 1) ∧ μ35 y10 (y10 + 1) σ33 < μ35 y9 y10 σ11)) σ26)) ∧ (r23 ≠ 0 →
                        I35 y9 (y10 + 1) σ22 ∧ zR (y10 + 1) ∧ μ35 y9 (y10 + 1) σ22 < μ35 y9 y10 σ11)) σ12))))) σ11) ∧ (r7 = 0 →
          K (-1) σ6)) σ3) ∧ (0 < (σ3 41 0) →
      K 0 σ3)) σ
abbrev rm_M_gate : Room := { frames := 6, cells := 0, slots := 0, locals := 143 }
set_option maxRecDepth 20000 in
set_option maxHeartbeats 4000000 in
theorem s_M_gate {Ω : zO} {ad : Nat → Nat} {from_ : Int} {to_ : Int} {K : Int → zS → Prop} {σ : zS} (hfrom_ : zR from_) (hto_ : zR to_) (h : q_M_gate from_ to_ K σ) : zMi Ω y_M_gate (.code y_M_gate c_M_gate 5 (some .int)) rm_M_gate zLy ad [.ref (ad 41), .int (zI from_), .int (zI to_)] σ K := by
  refine z_ofi (lv := [(0, .ref (ad 41)), (1, .int (zI from_)), (2, .int (zI to_))]) (by decide) rfl (Nat.le_of_ble_eq_true rfl) ?_
  intro Γ Q cx rt
  unfold q_M_gate at h
  refine v_aload_n cx 0 d_M_gate_0 rfl rfl ?_
  refine v_aload_n cx 0 d_M_gate_1 rfl rfl ?_
  refine v_iload_n cx 1 d_M_gate_2 rfl rfl ?_
  refine v_iload_n cx 2 d_M_gate_3 rfl rfl ?_
  refine v_callVi0 (st := [.ref (ad 41)]) cx (s_M_two hfrom_ hto_ h) yk_M_two lk_M_299 zl_41 rfl rfl rfl (Nat.le_of_ble_eq_true rfl) ⟨Nat.le_of_ble_eq_true rfl, Nat.le_of_ble_eq_true rfl⟩ ⟨rfl, rfl⟩ ⟨(Nat.le_of_ble_eq_true rfl), (Nat.le_of_ble_eq_true rfl)⟩ d_M_gate_4 (fun r2 σ1 hr2 h => ?_)
  refine pf_M_87 cx hr2 d_M_gate_7 ?_
  refine v_ns (fun σ3 eσ3 => ?_)
  replace h := h σ3 eσ3
  refine v_aload_n cx 0 d_M_gate_10 rfl rfl ?_
  refine gf_M_87 cx d_M_gate_11 (fun hl4 => ?_)
  refine v_if_le cx 19 d_M_gate_14 (by decide) hl4 (fun c5 => ?_) (fun c5 => ?_)
  · replace h := h.1 c5
    refine v_aload_n cx 0 d_M_gate_19 rfl rfl ?_
    refine v_iload_n cx 1 d_M_gate_20 rfl rfl ?_
    refine v_iload_n cx 2 d_M_gate_21 rfl rfl ?_
    refine v_callVz0 (st := []) cx (s_M_isThere hfrom_ hto_ h) yk_M_isThere lk_M_331 zl_41 rfl rfl rfl (Nat.le_of_ble_eq_true rfl) ⟨Nat.le_of_ble_eq_true rfl, Nat.le_of_ble_eq_true rfl⟩ ⟨rfl, rfl⟩ ⟨(Nat.le_of_ble_eq_true rfl), (Nat.le_of_ble_eq_true rfl)⟩ d_M_gate_22 (fun r7 σ6 hr7 h => ?_)
    refine v_if_ne cx 30 d_M_gate_25 (by decide) (zR_b hr7) (fun c8 => ?_) (fun c8 => ?_)
    · replace h := h.1 c8
      refine v_iconst cx d_M_gate_30 ?_
      refine v_istore_n (lv' := [(0, .ref (ad 41)), (1, .int (zI from_)), (2, .int (zI to_)), (3, .int (zI (-1)))]) cx d_M_gate_31 rfl (by decide) rfl rfl ?_
      refine v_iconst cx d_M_gate_32 ?_
      refine v_istore (lv' := [(0, .ref (ad 41)), (1, .int (zI from_)), (2, .int (zI to_)), (3, .int (zI (-1))), (4, .int (zI 0))]) cx d_M_gate_33 (by decide) rfl rfl ?_
      obtain ⟨I35, μ35, h0, h⟩ := h
      have L35 : ∀ (N35 : Nat) (y9 y10 : Int) (σ11 : zS), μ35 y9 y10 σ11 < N35 → I35 y9 y10 σ11 → zR y9 → zR y10 → zV Ω Γ rm_M_gate 5 Q 0 0 zLy ad σ11 35 [(0, .ref (ad 41)), (1, .int (zI from_)), (2, .int (zI to_)), (3, .int (zI y9)), (4, .int (zI y10))] [] := by
        intro N35
        induction N35 with
        | zero => intro y9 y10 σ11 hm; exact absurd hm (Nat.not_lt_zero _)
        | succ N35 ih35 =>
          intro y9 y10 σ11 hmm35 hI hy9 hy10
          replace h := h y9 y10 σ11 hI hy9 hy10
          refine v_iload cx 4 d_M_gate_35 rfl ?_
          refine v_aload_n cx 0 d_M_gate_37 rfl rfl ?_
          refine v_callVi0 (st := [.int (zI y10)]) cx (s_M_places  h) yk_M_places lk_M_90 zl_41 rfl rfl rfl (Nat.le_of_ble_eq_true rfl) ⟨Nat.le_of_ble_eq_true rfl, Nat.le_of_ble_eq_true rfl⟩ ⟨rfl, rfl⟩ ⟨(Nat.le_of_ble_eq_true rfl), (Nat.le_of_ble_eq_true rfl)⟩ d_M_gate_38 (fun r13 σ12 hr13 h => ?_)
          refine v_icmp_ge cx 113 d_M_gate_41 (by decide) hy10 hr13 (fun c14 => ?_) (fun c14 => ?_)
          · replace h := h.1 c14
            refine v_iload_n cx 3 d_M_gate_113 rfl rfl ?_
            exact rt _ _ _ _ _ _ (Nat.le_of_ble_eq_true rfl) (Nat.le_of_ble_eq_true rfl) d_M_gate_114 hy9 h
          · replace h := h.2 c14
            refine v_iload_n cx 3 d_M_gate_44 rfl rfl ?_
            refine v_iconst cx d_M_gate_45 ?_
            refine v_icmp_ne cx 113 d_M_gate_46 (by decide) hy9 ⟨by decide, by decide⟩ (fun c15 => ?_) (fun c15 => ?_)
            · replace h := h.1 c15
              refine v_iload_n cx 3 d_M_gate_113 rfl rfl ?_
              exact rt _ _ _ _ _ _ (Nat.le_of_ble_eq_true rfl) (Nat.le_of_ble_eq_true rfl) d_M_gate_114 hy9 h
            · replace h := h.2 c15
              refine v_iload cx 4 d_M_gate_49 rfl ?_
              refine v_iload_n cx 1 d_M_gate_51 rfl rfl ?_
              refine v_icmp_eq cx 107 d_M_gate_52 (by decide) hy10 hfrom_ (fun c16 => ?_) (fun c16 => ?_)
              · replace h := h.1 c16
                refine v_iinc (lv' := [(0, .ref (ad 41)), (1, .int (zI from_)), (2, .int (zI to_)), (3, .int (zI y9)), (4, .int (zI (y10 + 1)))]) cx 4 d_M_gate_107 rfl (by decide) rfl rfl ?_
                refine v_goto cx 35 d_M_gate_110 (by decide) ?_
                obtain ⟨hI2, hz18, hm2⟩ := h
                exact ih35 _ _ _ (Nat.lt_of_lt_of_le hm2 (Nat.le_of_lt_succ hmm35)) hI2 hy9 hz18
              · replace h := h.2 c16
                refine v_iload cx 4 d_M_gate_55 rfl ?_
                refine v_iload_n cx 2 d_M_gate_57 rfl rfl ?_
                refine v_icmp_eq cx 107 d_M_gate_58 (by decide) hy10 hto_ (fun c19 => ?_) (fun c19 => ?_)
                · replace h := h.1 c19
                  refine v_iinc (lv' := [(0, .ref (ad 41)), (1, .int (zI from_)), (2, .int (zI to_)), (3, .int (zI y9)), (4, .int (zI (y10 + 1)))]) cx 4 d_M_gate_107 rfl (by decide) rfl rfl ?_
                  refine v_goto cx 35 d_M_gate_110 (by decide) ?_
                  obtain ⟨hI2, hz21, hm2⟩ := h
                  exact ih35 _ _ _ (Nat.lt_of_lt_of_le hm2 (Nat.le_of_lt_succ hmm35)) hI2 hy9 hz21
                · replace h := h.2 c19
                  refine v_aload_n cx 0 d_M_gate_61 rfl rfl ?_
                  refine v_iload cx 4 d_M_gate_62 rfl ?_
                  refine v_callVz0 (st := []) cx (s_M_isWet hy10 h) yk_M_isWet lk_M_112 zl_41 rfl rfl rfl (Nat.le_of_ble_eq_true rfl) ⟨Nat.le_of_ble_eq_true rfl, Nat.le_of_ble_eq_true rfl⟩ ⟨rfl, rfl⟩ ⟨(Nat.le_of_ble_eq_true rfl), (Nat.le_of_ble_eq_true rfl)⟩ d_M_gate_64 (fun r23 σ22 hr23 h => ?_)
                  refine v_if_eq cx 73 d_M_gate_67 (by decide) (zR_b hr23) (fun c24 => ?_) (fun c24 => ?_)
                  · replace h := h.1 c24
                    refine v_aload_n cx 0 d_M_gate_73 rfl rfl ?_
                    refine gf_M_7 cx d_M_gate_74 ?_
                    refine v_bipush cx (by decide) d_M_gate_77 ?_
                    refine v_iload cx 4 d_M_gate_79 rfl ?_
                    refine v_iadd cx d_M_gate_81 ?_
                    refine v_iconst cx d_M_gate_82 ?_
                    obtain ⟨hb25, h⟩ := h
                    refine v_iast cx zl_42 (by decide) hb25.1 hb25.2 ⟨by decide, by decide⟩ d_M_gate_83 ?_
                    refine v_ns (fun σ26 eσ26 => ?_)
                    replace h := h σ26 eσ26
                    refine v_aload_n cx 0 d_M_gate_84 rfl rfl ?_
                    refine v_iload_n cx 1 d_M_gate_85 rfl rfl ?_
                    refine v_iload_n cx 2 d_M_gate_86 rfl rfl ?_
                    refine v_callVz0 (st := []) cx (s_M_isThere hfrom_ hto_ h) yk_M_isThere lk_M_331 zl_41 rfl rfl rfl (Nat.le_of_ble_eq_true rfl) ⟨Nat.le_of_ble_eq_true rfl, Nat.le_of_ble_eq_true rfl⟩ ⟨rfl, rfl⟩ ⟨(Nat.le_of_ble_eq_true rfl), (Nat.le_of_ble_eq_true rfl)⟩ d_M_gate_87 (fun r28 σ27 hr28 h => ?_)
                    refine v_if_ne cx 96 d_M_gate_90 (by decide) (zR_b hr28) (fun c29 => ?_) (fun c29 => ?_)
                    · replace h := h.1 c29
                      refine v_aload_n cx 0 d_M_gate_96 rfl rfl ?_
                      refine gf_M_7 cx d_M_gate_97 ?_
                      refine v_bipush cx (by decide) d_M_gate_100 ?_
                      refine v_iload cx 4 d_M_gate_102 rfl ?_
                      refine v_iadd cx d_M_gate_104 ?_
                      refine v_iconst cx d_M_gate_105 ?_
                      refine v_iast cx zl_42 (by decide) hb25.1 hb25.2 ⟨by decide, by decide⟩ d_M_gate_106 ?_
                      refine v_ns (fun σ30 eσ30 => ?_)
                      replace h := h σ30 eσ30
                      refine v_iinc (lv' := [(0, .ref (ad 41)), (1, .int (zI from_)), (2, .int (zI to_)), (3, .int (zI y9)), (4, .int (zI (y10 + 1)))]) cx 4 d_M_gate_107 rfl (by decide) rfl rfl ?_
                      refine v_goto cx 35 d_M_gate_110 (by decide) ?_
                      obtain ⟨hI2, hz32, hm2⟩ := h
                      exact ih35 _ _ _ (Nat.lt_of_lt_of_le hm2 (Nat.le_of_lt_succ hmm35)) hI2 hy9 hz32
                    · replace h := h.2 c29
                      refine v_iload cx 4 d_M_gate_93 rfl ?_
                      refine v_istore_n (lv' := [(0, .ref (ad 41)), (1, .int (zI from_)), (2, .int (zI to_)), (3, .int (zI y10)), (4, .int (zI y10))]) cx d_M_gate_95 rfl (by decide) rfl rfl ?_
                      refine v_aload_n cx 0 d_M_gate_96 rfl rfl ?_
                      refine gf_M_7 cx d_M_gate_97 ?_
                      refine v_bipush cx (by decide) d_M_gate_100 ?_
                      refine v_iload cx 4 d_M_gate_102 rfl ?_
                      refine v_iadd cx d_M_gate_104 ?_
                      refine v_iconst cx d_M_gate_105 ?_
                      refine v_iast cx zl_42 (by decide) hb25.1 hb25.2 ⟨by decide, by decide⟩ d_M_gate_106 ?_
                      refine v_ns (fun σ33 eσ33 => ?_)
                      replace h := h σ33 eσ33
                      refine v_iinc (lv' := [(0, .ref (ad 41)), (1, .int (zI from_)), (2, .int (zI to_)), (3, .int (zI y10)), (4, .int (zI (y10 + 1)))]) cx 4 d_M_gate_107 rfl (by decide) rfl rfl ?_
                      refine v_goto cx 35 d_M_gate_110 (by decide) ?_
                      obtain ⟨hI2, hz35, hm2⟩ := h
                      exact ih35 _ _ _ (Nat.lt_of_lt_of_le hm2 (Nat.le_of_lt_succ hmm35)) hI2 hy10 hz35
                  · replace h := h.2 c24
                    refine v_goto cx 107 d_M_gate_70 (by decide) ?_
                    refine v_iinc (lv' := [(0, .ref (ad 41)), (1, .int (zI from_)), (2, .int (zI to_)), (3, .int (zI y9)), (4, .int (zI (y10 + 1)))]) cx 4 d_M_gate_107 rfl (by decide) rfl rfl ?_
                    refine v_goto cx 35 d_M_gate_110 (by decide) ?_
                    obtain ⟨hI2, hz37, hm2⟩ := h
                    exact ih35 _ _ _ (Nat.lt_of_lt_of_le hm2 (Nat.le_of_lt_succ hmm35)) hI2 hy9 hz37
      exact L35 _ _ _ _ (Nat.lt_succ_self _) h0 ⟨by decide, by decide⟩ ⟨by decide, by decide⟩
    · replace h := h.2 c8
      refine v_iconst cx d_M_gate_28 ?_
      exact rt _ _ _ _ _ _ (Nat.le_of_ble_eq_true rfl) (Nat.le_of_ble_eq_true rfl) d_M_gate_29 ⟨by decide, by decide⟩ h
  · replace h := h.2 c5
    refine v_iconst cx d_M_gate_17 ?_
    exact rt _ _ _ _ _ _ (Nat.le_of_ble_eq_true rfl) (Nat.le_of_ble_eq_true rfl) d_M_gate_18 ⟨by decide, by decide⟩ h
def q_M_isBorne (state : Int) (n_ : Int) (cost : Int) (K : Int → zS → Prop) (σ : zS) : Prop :=
  (0 ≤ (4 * state) + n_ ∧ (4 * state) + n_ < 2592) ∧ ((cost < (σ 53 ((4 * state) + n_)) →
      ∀ σ4 : zS, σ4 = zU σ 53 ((4 * state) + n_) cost → K 1 σ4) ∧ ((σ 53 ((4 * state) + n_)) ≤ cost →
      K 0 σ))
abbrev rm_M_isBorne : Room := { frames := 0, cells := 0, slots := 0, locals := 0 }
set_option maxRecDepth 20000 in
set_option maxHeartbeats 4000000 in
theorem s_M_isBorne {Ω : zO} {ad : Nat → Nat} {state : Int} {n_ : Int} {cost : Int} {K : Int → zS → Prop} {σ : zS} (hstate : zR state) (hn_ : zR n_) (hcost : zR cost) (h : q_M_isBorne state n_ cost K σ) : zMz Ω y_M_isBorne (.code y_M_isBorne c_M_isBorne 4 (some .boolean)) rm_M_isBorne zLy ad [.ref (ad 41), .int (zI state), .int (zI n_), .int (zI cost)] σ K := by
  refine z_ofz (lv := [(0, .ref (ad 41)), (1, .int (zI state)), (2, .int (zI n_)), (3, .int (zI cost))]) (by decide) rfl (Nat.le_of_ble_eq_true rfl) ?_
  intro Γ Q cx rt
  unfold q_M_isBorne at h
  refine v_iload_n cx 3 d_M_isBorne_0 rfl rfl ?_
  refine v_aload_n cx 0 d_M_isBorne_1 rfl rfl ?_
  refine gf_M_47 cx d_M_isBorne_2 ?_
  refine v_iconst cx d_M_isBorne_5 ?_
  refine v_iload_n cx 1 d_M_isBorne_6 rfl rfl ?_
  refine v_imul cx d_M_isBorne_7 ?_
  refine v_iload_n cx 2 d_M_isBorne_8 rfl rfl ?_
  refine v_iadd cx d_M_isBorne_9 ?_
  obtain ⟨hb1, h⟩ := h
  refine v_iald cx zl_53 (by decide) hb1.1 hb1.2 d_M_isBorne_10 (fun hl2 => ?_)
  refine v_icmp_lt cx 16 d_M_isBorne_11 (by decide) hcost hl2 (fun c3 => ?_) (fun c3 => ?_)
  · replace h := h.1 c3
    refine v_aload_n cx 0 d_M_isBorne_16 rfl rfl ?_
    refine gf_M_47 cx d_M_isBorne_17 ?_
    refine v_iconst cx d_M_isBorne_20 ?_
    refine v_iload_n cx 1 d_M_isBorne_21 rfl rfl ?_
    refine v_imul cx d_M_isBorne_22 ?_
    refine v_iload_n cx 2 d_M_isBorne_23 rfl rfl ?_
    refine v_iadd cx d_M_isBorne_24 ?_
    refine v_iload_n cx 3 d_M_isBorne_25 rfl rfl ?_
    refine v_iast cx zl_53 (by decide) hb1.1 hb1.2 hcost d_M_isBorne_26 ?_
    refine v_ns (fun σ4 eσ4 => ?_)
    replace h := h σ4 eσ4
    refine v_iconst cx d_M_isBorne_27 ?_
    exact rt _ _ _ _ _ _ (Nat.le_of_ble_eq_true rfl) (Nat.le_of_ble_eq_true rfl) d_M_isBorne_28 (Or.inr rfl) h
  · replace h := h.2 c3
    refine v_iconst cx d_M_isBorne_14 ?_
    exact rt _ _ _ _ _ _ (Nat.le_of_ble_eq_true rfl) (Nat.le_of_ble_eq_true rfl) d_M_isBorne_15 (Or.inl rfl) h
def q_M_bores (p : Int) (h_ : Int) (gone : Int) (cost : Int) (most0 : Int) (K : Int → zS → Prop) (σ : zS) : Prop :=
  ∃ (I6 : Int → Int → zS → Prop) (μ6 : Int → Int → zS → Nat), (I6 0 0 σ) ∧ ∀ (y1 y2 : Int) (σ3 : zS), I6 y1 y2 σ3 → zR y1 → zR y2 → 
  (8 ≤ y2 →
    (y1 = 0 ∨ y1 = 1) ∧ (K y1 σ3)) ∧ (y2 < 8 →
    q_M_isOpen p y2 (fun r7 σ6 =>
      (r7 = 0 →
        I6 y1 (y2 + 1) σ6 ∧ zR (y2 + 1) ∧ μ6 y1 (y2 + 1) σ6 < μ6 y1 y2 σ3) ∧ (r7 ≠ 0 →
        ∃ J42 : zS → Prop, (∀ (σ11 : zS), J42 σ11 → 
          q_M_isSteep p y2 (fun r13 σ12 =>
            ∃ J58 : Int → Prop, (∀ (w14 : Int), J58 w14 → zR w14 → 
              ∀ x15 : Int, x15 = gone + w14 → zR x15 ∧ ((x15 ≤ most0 →
                  q_M_stepOf p y2 0 (fun r19 σ18 =>
                    ∃ J98 : Int → zS → Prop, (∀ (w20 : Int) (σ21 : zS), J98 w20 σ21 → zR w20 → 
                      ∃ J116 : Int → Prop, (∀ (w22 : Int), J116 w22 → zR w22 → 
                        ∀ x23 : Int, x23 = ((cost + r19) + w20) + w22 → q_M_beside p y2 (fun r25 σ24 =>
                          zR ((8 * r25) + y2) ∧ (zR x23 ∧ (q_M_isBorne ((8 * r25) + y2) x15 x23 (fun r29 σ28 =>
                                (r29 ≠ 0 →
                                  I6 1 (y2 + 1) σ28 ∧ zR (y2 + 1) ∧ μ6 1 (y2 + 1) σ28 < μ6 y1 y2 σ3) ∧ (r29 = 0 →
                                  (y1 = 0 →
                                    I6 0 (y2 + 1) σ28 ∧ zR (y2 + 1) ∧ μ6 0 (y2 + 1) σ28 < μ6 y1 y2 σ3) ∧ (y1 ≠ 0 →
                                    I6 1 (y2 + 1) σ28 ∧ zR (y2 + 1) ∧ μ6 1 (y2 + 1) σ28 < μ6 y1 y2 σ3))) σ24))) σ21) ∧
                      ((x15 ≤ gone →
                          J116 0) ∧ (gone < x15 →
                          J116 (σ21 42 8)))) ∧
                    ((h_ ≠ (-1) →
                        q_M_bendCost h_ y2 (fun r42 σ41 =>
                          J98 r42 σ41) σ18) ∧ (h_ = (-1) →
                        J98 0 σ18))) σ12) ∧ (most0 < x15 →
                  I6 y1 (y2 + 1) σ12 ∧ zR (y2 + 1) ∧ μ6 y1 (y2 + 1) σ12 < μ6 y1 y2 σ3))) ∧
            ((r13 = 0 →
                J58 0) ∧ (r13 ≠ 0 →
                J58 1))) σ11) ∧
        ((h_ = (-1) →
            J42 σ6) ∧ (h_ ≠ (-1) →
            q_M_canBend p h_ y2 (fun r48 σ47 =>
              (r48 ≠ 0 →
                J42 σ47) ∧ (r48 = 0 →
                I6 y1 (y2 + 1) σ47 ∧ zR (y2 + 1) ∧ μ6 y1 (y2 + 1) σ47 < μ6 y1 y2 σ3)) σ6)))) σ3)
abbrev rm_M_bores : Room := { frames := 4, cells := 0, slots := 0, locals := 96 }
set_option maxRecDepth 20000 in
set_option maxHeartbeats 4000000 in
theorem s_M_bores {Ω : zO} {ad : Nat → Nat} {p : Int} {h_ : Int} {gone : Int} {cost : Int} {most0 : Int} {K : Int → zS → Prop} {σ : zS} (hp : zR p) (hh_ : zR h_) (hgone : zR gone) (hcost : zR cost) (hmost0 : zR most0) (h : q_M_bores p h_ gone cost most0 K σ) : zMz Ω y_M_bores (.code y_M_bores c_M_bores 10 (some .boolean)) rm_M_bores zLy ad [.ref (ad 41), .int (zI p), .int (zI h_), .int (zI gone), .int (zI cost), .int (zI most0)] σ K := by
  refine z_ofz (lv := [(0, .ref (ad 41)), (1, .int (zI p)), (2, .int (zI h_)), (3, .int (zI gone)), (4, .int (zI cost)), (5, .int (zI most0))]) (by decide) rfl (Nat.le_of_ble_eq_true rfl) ?_
  intro Γ Q cx rt
  unfold q_M_bores at h
  refine v_iconst cx d_M_bores_0 ?_
  refine v_istore (lv' := [(0, .ref (ad 41)), (1, .int (zI p)), (2, .int (zI h_)), (3, .int (zI gone)), (4, .int (zI cost)), (5, .int (zI most0)), (6, .int (zI 0))]) cx d_M_bores_1 (by decide) rfl rfl ?_
  refine v_iconst cx d_M_bores_3 ?_
  refine v_istore (lv' := [(0, .ref (ad 41)), (1, .int (zI p)), (2, .int (zI h_)), (3, .int (zI gone)), (4, .int (zI cost)), (5, .int (zI most0)), (6, .int (zI 0)), (7, .int (zI 0))]) cx d_M_bores_4 (by decide) rfl rfl ?_
  obtain ⟨I6, μ6, h0, h⟩ := h
  have L6 : ∀ (N6 : Nat) (y1 y2 : Int) (σ3 : zS), μ6 y1 y2 σ3 < N6 → I6 y1 y2 σ3 → zR y1 → zR y2 → zV Ω Γ rm_M_bores 10 Q 0 0 zLy ad σ3 6 [(0, .ref (ad 41)), (1, .int (zI p)), (2, .int (zI h_)), (3, .int (zI gone)), (4, .int (zI cost)), (5, .int (zI most0)), (6, .int (zI y1)), (7, .int (zI y2))] [] := by
    intro N6
    induction N6 with
    | zero => intro y1 y2 σ3 hm; exact absurd hm (Nat.not_lt_zero _)
    | succ N6 ih6 =>
      intro y1 y2 σ3 hmm6 hI hy1 hy2
      replace h := h y1 y2 σ3 hI hy1 hy2
      refine v_iload cx 7 d_M_bores_6 rfl ?_
      refine v_bipush cx (by decide) d_M_bores_8 ?_
      refine v_icmp_ge cx 161 d_M_bores_10 (by decide) hy2 ⟨by decide, by decide⟩ (fun c4 => ?_) (fun c4 => ?_)
      · replace h := h.1 c4
        refine v_iload cx 6 d_M_bores_161 rfl ?_
        obtain ⟨hz5, h⟩ := h
        exact rt _ _ _ _ _ _ (Nat.le_of_ble_eq_true rfl) (Nat.le_of_ble_eq_true rfl) d_M_bores_163 hz5 h
      · replace h := h.2 c4
        refine v_aload_n cx 0 d_M_bores_13 rfl rfl ?_
        refine v_iload_n cx 1 d_M_bores_14 rfl rfl ?_
        refine v_iload cx 7 d_M_bores_15 rfl ?_
        refine v_callVz0 (st := []) cx (s_M_isOpen hp hy2 h) yk_M_isOpen lk_M_116 zl_41 rfl rfl rfl (Nat.le_of_ble_eq_true rfl) ⟨Nat.le_of_ble_eq_true rfl, Nat.le_of_ble_eq_true rfl⟩ ⟨rfl, rfl⟩ ⟨(Nat.le_of_ble_eq_true rfl), (Nat.le_of_ble_eq_true rfl)⟩ d_M_bores_17 (fun r7 σ6 hr7 h => ?_)
        refine v_if_eq cx 155 d_M_bores_20 (by decide) (zR_b hr7) (fun c8 => ?_) (fun c8 => ?_)
        · replace h := h.1 c8
          refine v_iinc (lv' := [(0, .ref (ad 41)), (1, .int (zI p)), (2, .int (zI h_)), (3, .int (zI gone)), (4, .int (zI cost)), (5, .int (zI most0)), (6, .int (zI y1)), (7, .int (zI (y2 + 1)))]) cx 7 d_M_bores_155 rfl (by decide) rfl rfl ?_
          refine v_goto cx 6 d_M_bores_158 (by decide) ?_
          obtain ⟨hI2, hz10, hm2⟩ := h
          exact ih6 _ _ _ (Nat.lt_of_lt_of_le hm2 (Nat.le_of_lt_succ hmm6)) hI2 hy1 hz10
        · replace h := h.2 c8
          refine v_iload_n cx 2 d_M_bores_23 rfl rfl ?_
          refine v_iconst cx d_M_bores_24 ?_
          obtain ⟨J42, hJ42, h⟩ := h
          have G42 : ∀ (σ11 : zS), J42 σ11 → zV Ω Γ rm_M_bores 10 Q 0 0 zLy ad σ11 42 [(0, .ref (ad 41)), (1, .int (zI p)), (2, .int (zI h_)), (3, .int (zI gone)), (4, .int (zI cost)), (5, .int (zI most0)), (6, .int (zI y1)), (7, .int (zI y2))] [] := by
            intro σ11 hJ 
            replace h := hJ42 σ11 hJ 
            refine v_iload_n cx 3 d_M_bores_42 rfl rfl ?_
            refine v_aload_n cx 0 d_M_bores_43 rfl rfl ?_
            refine v_iload_n cx 1 d_M_bores_44 rfl rfl ?_
            refine v_iload cx 7 d_M_bores_45 rfl ?_
            refine v_callVz0 (st := [.int (zI gone)]) cx (s_M_isSteep hp hy2 h) yk_M_isSteep lk_M_120 zl_41 rfl rfl rfl (Nat.le_of_ble_eq_true rfl) ⟨Nat.le_of_ble_eq_true rfl, Nat.le_of_ble_eq_true rfl⟩ ⟨rfl, rfl⟩ ⟨(Nat.le_of_ble_eq_true rfl), (Nat.le_of_ble_eq_true rfl)⟩ d_M_bores_47 (fun r13 σ12 hr13 h => ?_)
            obtain ⟨J58, hJ58, h⟩ := h
            have G58 : ∀ (w14 : Int), J58 w14 → zR w14 → zV Ω Γ rm_M_bores 10 Q 0 0 zLy ad σ12 58 [(0, .ref (ad 41)), (1, .int (zI p)), (2, .int (zI h_)), (3, .int (zI gone)), (4, .int (zI cost)), (5, .int (zI most0)), (6, .int (zI y1)), (7, .int (zI y2))] [.int (zI w14), .int (zI gone)] := by
              intro w14 hJ hw14
              replace h := hJ58 w14 hJ hw14
              refine v_iadd cx d_M_bores_58 ?_
              refine v_nm (fun x15 ex15 => ?_)
              replace h := h x15 ex15
              refine v_istore (lv' := [(0, .ref (ad 41)), (1, .int (zI p)), (2, .int (zI h_)), (3, .int (zI gone)), (4, .int (zI cost)), (5, .int (zI most0)), (6, .int (zI y1)), (7, .int (zI y2)), (8, .int (zI x15))]) cx d_M_bores_59 (by decide) rfl rfl ?_
              refine v_iload cx 8 d_M_bores_61 rfl ?_
              refine v_iload cx 5 d_M_bores_63 rfl ?_
              obtain ⟨hr16, h⟩ := h
              refine v_icmp_le cx 71 d_M_bores_65 (by decide) hr16 hmost0 (fun c17 => ?_) (fun c17 => ?_)
              · replace h := h.1 c17
                refine v_iload cx 4 d_M_bores_71 rfl ?_
                refine v_aload_n cx 0 d_M_bores_73 rfl rfl ?_
                refine v_iload_n cx 1 d_M_bores_74 rfl rfl ?_
                refine v_iload cx 7 d_M_bores_75 rfl ?_
                refine v_iconst cx d_M_bores_77 ?_
                refine v_callVi0 (st := [.int (zI cost)]) cx (s_M_stepOf hp hy2 ⟨by decide, by decide⟩ h) yk_M_stepOf lk_M_139 zl_41 rfl rfl rfl (Nat.le_of_ble_eq_true rfl) ⟨Nat.le_of_ble_eq_true rfl, Nat.le_of_ble_eq_true rfl⟩ ⟨rfl, rfl⟩ ⟨(Nat.le_of_ble_eq_true rfl), (Nat.le_of_ble_eq_true rfl)⟩ d_M_bores_78 (fun r19 σ18 hr19 h => ?_)
                refine v_iadd cx d_M_bores_81 ?_
                refine v_iload_n cx 2 d_M_bores_82 rfl rfl ?_
                refine v_iconst cx d_M_bores_83 ?_
                obtain ⟨J98, hJ98, h⟩ := h
                have G98 : ∀ (w20 : Int) (σ21 : zS), J98 w20 σ21 → zR w20 → zV Ω Γ rm_M_bores 10 Q 0 0 zLy ad σ21 98 [(0, .ref (ad 41)), (1, .int (zI p)), (2, .int (zI h_)), (3, .int (zI gone)), (4, .int (zI cost)), (5, .int (zI most0)), (6, .int (zI y1)), (7, .int (zI y2)), (8, .int (zI x15))] [.int (zI w20), .int (zI (cost + r19))] := by
                  intro w20 σ21 hJ hw20
                  replace h := hJ98 w20 σ21 hJ hw20
                  refine v_iadd cx d_M_bores_98 ?_
                  refine v_iload cx 8 d_M_bores_99 rfl ?_
                  refine v_iload_n cx 3 d_M_bores_101 rfl rfl ?_
                  obtain ⟨J116, hJ116, h⟩ := h
                  have G116 : ∀ (w22 : Int), J116 w22 → zR w22 → zV Ω Γ rm_M_bores 10 Q 0 0 zLy ad σ21 116 [(0, .ref (ad 41)), (1, .int (zI p)), (2, .int (zI h_)), (3, .int (zI gone)), (4, .int (zI cost)), (5, .int (zI most0)), (6, .int (zI y1)), (7, .int (zI y2)), (8, .int (zI x15))] [.int (zI w22), .int (zI ((cost + r19) + w20))] := by
                    intro w22 hJ hw22
                    replace h := hJ116 w22 hJ hw22
                    refine v_iadd cx d_M_bores_116 ?_
                    refine v_nm (fun x23 ex23 => ?_)
                    replace h := h x23 ex23
                    refine v_istore (lv' := [(0, .ref (ad 41)), (1, .int (zI p)), (2, .int (zI h_)), (3, .int (zI gone)), (4, .int (zI cost)), (5, .int (zI most0)), (6, .int (zI y1)), (7, .int (zI y2)), (8, .int (zI x15)), (9, .int (zI x23))]) cx d_M_bores_117 (by decide) rfl rfl ?_
                    refine v_aload_n cx 0 d_M_bores_119 rfl rfl ?_
                    refine v_bipush cx (by decide) d_M_bores_120 ?_
                    refine v_aload_n cx 0 d_M_bores_122 rfl rfl ?_
                    refine v_iload_n cx 1 d_M_bores_123 rfl rfl ?_
                    refine v_iload cx 7 d_M_bores_124 rfl ?_
                    refine v_callVi0 (st := [.int (zI 8), .ref (ad 41)]) cx (s_M_beside hp hy2 h) yk_M_beside lk_M_102 zl_41 rfl rfl rfl (Nat.le_of_ble_eq_true rfl) ⟨Nat.le_of_ble_eq_true rfl, Nat.le_of_ble_eq_true rfl⟩ ⟨rfl, rfl⟩ ⟨(Nat.le_of_ble_eq_true rfl), (Nat.le_of_ble_eq_true rfl)⟩ d_M_bores_126 (fun r25 σ24 hr25 h => ?_)
                    refine v_imul cx d_M_bores_129 ?_
                    refine v_iload cx 7 d_M_bores_130 rfl ?_
                    refine v_iadd cx d_M_bores_132 ?_
                    refine v_iload cx 8 d_M_bores_133 rfl ?_
                    refine v_iload cx 9 d_M_bores_135 rfl ?_
                    obtain ⟨hr26, h⟩ := h
                    obtain ⟨hr27, h⟩ := h
                    refine v_callVz0 (st := []) cx (s_M_isBorne hr26 hr16 hr27 h) yk_M_isBorne lk_M_334 zl_41 rfl rfl rfl (Nat.le_of_ble_eq_true rfl) ⟨Nat.le_of_ble_eq_true rfl, Nat.le_of_ble_eq_true rfl⟩ ⟨rfl, rfl⟩ ⟨(Nat.le_of_ble_eq_true rfl), (Nat.le_of_ble_eq_true rfl)⟩ d_M_bores_137 (fun r29 σ28 hr29 h => ?_)
                    refine v_if_ne cx 148 d_M_bores_140 (by decide) (zR_b hr29) (fun c30 => ?_) (fun c30 => ?_)
                    · replace h := h.1 c30
                      refine v_iconst cx d_M_bores_148 ?_
                      refine v_goto cx 153 d_M_bores_149 (by decide) ?_
                      refine v_istore (lv' := [(0, .ref (ad 41)), (1, .int (zI p)), (2, .int (zI h_)), (3, .int (zI gone)), (4, .int (zI cost)), (5, .int (zI most0)), (6, .int (zI 1)), (7, .int (zI y2)), (8, .int (zI x15)), (9, .int (zI x23))]) cx d_M_bores_153 (by decide) rfl rfl ?_
                      refine v_iinc (lv' := [(0, .ref (ad 41)), (1, .int (zI p)), (2, .int (zI h_)), (3, .int (zI gone)), (4, .int (zI cost)), (5, .int (zI most0)), (6, .int (zI 1)), (7, .int (zI (y2 + 1))), (8, .int (zI x15)), (9, .int (zI x23))]) cx 7 d_M_bores_155 rfl (by decide) rfl rfl ?_
                      refine v_goto cx 6 d_M_bores_158 (by decide) ?_
                      refine v_sb (lv' := [(0, .ref (ad 41)), (1, .int (zI p)), (2, .int (zI h_)), (3, .int (zI gone)), (4, .int (zI cost)), (5, .int (zI most0)), (6, .int (zI 1)), (7, .int (zI (y2 + 1)))]) [0, 1, 2, 3, 4, 5, 6, 7] rfl ?_
                      obtain ⟨hI2, hz32, hm2⟩ := h
                      exact ih6 _ _ _ (Nat.lt_of_lt_of_le hm2 (Nat.le_of_lt_succ hmm6)) hI2 ⟨by decide, by decide⟩ hz32
                    · replace h := h.2 c30
                      refine v_iload cx 6 d_M_bores_143 rfl ?_
                      refine v_if_eq cx 152 d_M_bores_145 (by decide) hy1 (fun c33 => ?_) (fun c33 => ?_)
                      · replace h := h.1 c33
                        refine v_iconst cx d_M_bores_152 ?_
                        refine v_istore (lv' := [(0, .ref (ad 41)), (1, .int (zI p)), (2, .int (zI h_)), (3, .int (zI gone)), (4, .int (zI cost)), (5, .int (zI most0)), (6, .int (zI 0)), (7, .int (zI y2)), (8, .int (zI x15)), (9, .int (zI x23))]) cx d_M_bores_153 (by decide) rfl rfl ?_
                        refine v_iinc (lv' := [(0, .ref (ad 41)), (1, .int (zI p)), (2, .int (zI h_)), (3, .int (zI gone)), (4, .int (zI cost)), (5, .int (zI most0)), (6, .int (zI 0)), (7, .int (zI (y2 + 1))), (8, .int (zI x15)), (9, .int (zI x23))]) cx 7 d_M_bores_155 rfl (by decide) rfl rfl ?_
                        refine v_goto cx 6 d_M_bores_158 (by decide) ?_
                        refine v_sb (lv' := [(0, .ref (ad 41)), (1, .int (zI p)), (2, .int (zI h_)), (3, .int (zI gone)), (4, .int (zI cost)), (5, .int (zI most0)), (6, .int (zI 0)), (7, .int (zI (y2 + 1)))]) [0, 1, 2, 3, 4, 5, 6, 7] rfl ?_
                        obtain ⟨hI2, hz35, hm2⟩ := h
                        exact ih6 _ _ _ (Nat.lt_of_lt_of_le hm2 (Nat.le_of_lt_succ hmm6)) hI2 ⟨by decide, by decide⟩ hz35
                      · replace h := h.2 c33
                        refine v_iconst cx d_M_bores_148 ?_
                        refine v_goto cx 153 d_M_bores_149 (by decide) ?_
                        refine v_istore (lv' := [(0, .ref (ad 41)), (1, .int (zI p)), (2, .int (zI h_)), (3, .int (zI gone)), (4, .int (zI cost)), (5, .int (zI most0)), (6, .int (zI 1)), (7, .int (zI y2)), (8, .int (zI x15)), (9, .int (zI x23))]) cx d_M_bores_153 (by decide) rfl rfl ?_
                        refine v_iinc (lv' := [(0, .ref (ad 41)), (1, .int (zI p)), (2, .int (zI h_)), (3, .int (zI gone)), (4, .int (zI cost)), (5, .int (zI most0)), (6, .int (zI 1)), (7, .int (zI (y2 + 1))), (8, .int (zI x15)), (9, .int (zI x23))]) cx 7 d_M_bores_155 rfl (by decide) rfl rfl ?_
                        refine v_goto cx 6 d_M_bores_158 (by decide) ?_
                        refine v_sb (lv' := [(0, .ref (ad 41)), (1, .int (zI p)), (2, .int (zI h_)), (3, .int (zI gone)), (4, .int (zI cost)), (5, .int (zI most0)), (6, .int (zI 1)), (7, .int (zI (y2 + 1)))]) [0, 1, 2, 3, 4, 5, 6, 7] rfl ?_
                        obtain ⟨hI2, hz37, hm2⟩ := h
                        exact ih6 _ _ _ (Nat.lt_of_lt_of_le hm2 (Nat.le_of_lt_succ hmm6)) hI2 ⟨by decide, by decide⟩ hz37
                  refine v_icmp_le cx 115 d_M_bores_102 (by decide) hr16 hgone (fun c38 => ?_) (fun c38 => ?_)
                  · replace h := h.1 c38
                    refine v_iconst cx d_M_bores_115 ?_
                    have hJ2 := h
                    exact G116 _ hJ2 ⟨by decide, by decide⟩
                  · replace h := h.2 c38
                    refine v_aload_n cx 0 d_M_bores_105 rfl rfl ?_
                    refine gf_M_7 cx d_M_bores_106 ?_
                    refine v_bipush cx (by decide) d_M_bores_109 ?_
                    refine v_iald cx zl_42 (by decide) (by decide) (by decide) d_M_bores_111 (fun hl39 => ?_)
                    refine v_goto cx 116 d_M_bores_112 (by decide) ?_
                    have hJ2 := h
                    exact G116 _ hJ2 hl39
                refine v_icmp_ne cx 91 d_M_bores_84 (by decide) hh_ ⟨by decide, by decide⟩ (fun c40 => ?_) (fun c40 => ?_)
                · replace h := h.1 c40
                  refine v_aload_n cx 0 d_M_bores_91 rfl rfl ?_
                  refine v_iload_n cx 2 d_M_bores_92 rfl rfl ?_
                  refine v_iload cx 7 d_M_bores_93 rfl ?_
                  refine v_callVi0 (st := [.int (zI (cost + r19))]) cx (s_M_bendCost hh_ hy2 h) yk_M_bendCost lk_M_146 zl_41 rfl rfl rfl (Nat.le_of_ble_eq_true rfl) ⟨Nat.le_of_ble_eq_true rfl, Nat.le_of_ble_eq_true rfl⟩ ⟨rfl, rfl⟩ ⟨(Nat.le_of_ble_eq_true rfl), (Nat.le_of_ble_eq_true rfl)⟩ d_M_bores_95 (fun r42 σ41 hr42 h => ?_)
                  have hJ2 := h
                  exact G98 _ _ hJ2 hr42
                · replace h := h.2 c40
                  refine v_iconst cx d_M_bores_87 ?_
                  refine v_goto cx 98 d_M_bores_88 (by decide) ?_
                  have hJ2 := h
                  exact G98 _ _ hJ2 ⟨by decide, by decide⟩
              · replace h := h.2 c17
                refine v_goto cx 155 d_M_bores_68 (by decide) ?_
                refine v_iinc (lv' := [(0, .ref (ad 41)), (1, .int (zI p)), (2, .int (zI h_)), (3, .int (zI gone)), (4, .int (zI cost)), (5, .int (zI most0)), (6, .int (zI y1)), (7, .int (zI (y2 + 1))), (8, .int (zI x15))]) cx 7 d_M_bores_155 rfl (by decide) rfl rfl ?_
                refine v_goto cx 6 d_M_bores_158 (by decide) ?_
                refine v_sb (lv' := [(0, .ref (ad 41)), (1, .int (zI p)), (2, .int (zI h_)), (3, .int (zI gone)), (4, .int (zI cost)), (5, .int (zI most0)), (6, .int (zI y1)), (7, .int (zI (y2 + 1)))]) [0, 1, 2, 3, 4, 5, 6, 7] rfl ?_
                obtain ⟨hI2, hz44, hm2⟩ := h
                exact ih6 _ _ _ (Nat.lt_of_lt_of_le hm2 (Nat.le_of_lt_succ hmm6)) hI2 hy1 hz44
            refine v_if_eq cx 57 d_M_bores_50 (by decide) (zR_b hr13) (fun c45 => ?_) (fun c45 => ?_)
            · replace h := h.1 c45
              refine v_iconst cx d_M_bores_57 ?_
              have hJ2 := h
              exact G58 _ hJ2 ⟨by decide, by decide⟩
            · replace h := h.2 c45
              refine v_iconst cx d_M_bores_53 ?_
              refine v_goto cx 58 d_M_bores_54 (by decide) ?_
              have hJ2 := h
              exact G58 _ hJ2 ⟨by decide, by decide⟩
          refine v_icmp_eq cx 42 d_M_bores_25 (by decide) hh_ ⟨by decide, by decide⟩ (fun c46 => ?_) (fun c46 => ?_)
          · replace h := h.1 c46
            have hJ2 := h
            exact G42 _ hJ2 
          · replace h := h.2 c46
            refine v_aload_n cx 0 d_M_bores_28 rfl rfl ?_
            refine v_iload_n cx 1 d_M_bores_29 rfl rfl ?_
            refine v_iload_n cx 2 d_M_bores_30 rfl rfl ?_
            refine v_iload cx 7 d_M_bores_31 rfl ?_
            refine v_callVz0 (st := []) cx (s_M_canBend hp hh_ hy2 h) yk_M_canBend lk_M_152 zl_41 rfl rfl rfl (Nat.le_of_ble_eq_true rfl) ⟨Nat.le_of_ble_eq_true rfl, Nat.le_of_ble_eq_true rfl⟩ ⟨rfl, rfl⟩ ⟨(Nat.le_of_ble_eq_true rfl), (Nat.le_of_ble_eq_true rfl)⟩ d_M_bores_33 (fun r48 σ47 hr48 h => ?_)
            refine v_if_ne cx 42 d_M_bores_36 (by decide) (zR_b hr48) (fun c49 => ?_) (fun c49 => ?_)
            · replace h := h.1 c49
              have hJ2 := h
              exact G42 _ hJ2 
            · replace h := h.2 c49
              refine v_goto cx 155 d_M_bores_39 (by decide) ?_
              refine v_iinc (lv' := [(0, .ref (ad 41)), (1, .int (zI p)), (2, .int (zI h_)), (3, .int (zI gone)), (4, .int (zI cost)), (5, .int (zI most0)), (6, .int (zI y1)), (7, .int (zI (y2 + 1)))]) cx 7 d_M_bores_155 rfl (by decide) rfl rfl ?_
              refine v_goto cx 6 d_M_bores_158 (by decide) ?_
              obtain ⟨hI2, hz51, hm2⟩ := h
              exact ih6 _ _ _ (Nat.lt_of_lt_of_le hm2 (Nat.le_of_lt_succ hmm6)) hI2 hy1 hz51
  exact L6 _ _ _ _ (Nat.lt_succ_self _) h0 ⟨by decide, by decide⟩ ⟨by decide, by decide⟩
def q_M_bored (from_ : Int) (to_ : Int) (n_ : Int) (K : Int → zS → Prop) (σ : zS) : Prop :=
  q_M_two from_ to_ (fun r2 σ1 =>
    ∀ σ3 : zS, σ3 = zU σ1 41 0 r2 → ∃ J31 : zS → Prop, (∀ (σ5 : zS), J31 σ5 → 
      ((σ5 41 0) ≤ 0 →
        ∃ (I43 : Int → zS → Prop) (μ43 : Int → zS → Nat), (I43 0 σ5) ∧ ∀ (y8 : Int) (σ9 : zS), I43 y8 σ9 → zR y8 → 
        (2592 ≤ y8 →
          q_M_bores from_ (-1) 0 0 n_ (fun r12 σ11 =>
            ∃ (I77 : Int → zS → Prop) (μ77 : Int → zS → Nat), (I77 r12 σ11) ∧ ∀ (y13 : Int) (σ14 : zS), I77 y13 σ14 → zR y13 → 
            (y13 = 0 →
              ∀ x16 : Int, x16 = 32 * to_ → ∃ (I174 : Int → Int → zS → Prop) (μ174 : Int → Int → zS → Nat), (I174 1000000000 x16 σ14 ∧ zR x16) ∧ ∀ (y17 y18 : Int) (σ19 : zS), I174 y17 y18 σ19 → zR y17 → zR y18 → 
              zR ((32 * to_) + 32) ∧ ((((32 * to_) + 32) ≤ y18 →
                  (y17 ≠ 1000000000 →
                    K y17 σ19) ∧ (y17 = 1000000000 →
                    K (-1) σ19)) ∧ (y18 < ((32 * to_) + 32) →
                  (0 ≤ y18 ∧ y18 < 2592) ∧ (q_M_lesser y17 (σ19 53 y18) (fun r27 σ26 =>
                      I174 r27 (y18 + 1) σ26 ∧ zR (y18 + 1) ∧ μ174 r27 (y18 + 1) σ26 < μ174 y17 y18 σ19) σ19)))) ∧ (y13 ≠ 0 →
              ∃ (I88 : Int → Int → zS → Prop) (μ88 : Int → Int → zS → Nat), (I88 0 0 σ14) ∧ ∀ (y30 y31 : Int) (σ32 : zS), I88 y30 y31 σ32 → zR y30 → zR y31 → 
              q_M_places (fun r34 σ33 =>
                zR (32 * r34) ∧ (((32 * r34) ≤ y31 →
                    I77 y30 σ33 ∧ μ77 y30 σ33 < μ77 y13 σ14) ∧ (y31 < (32 * r34) →
                    (0 ≤ y31 ∧ y31 < 2592) ∧ ((1000000000 ≤ (σ33 53 y31) →
                        I88 y30 (y31 + 1) σ33 ∧ zR (y31 + 1) ∧ μ88 y30 (y31 + 1) σ33 < μ88 y30 y31 σ32) ∧ ((σ33 53 y31) < 1000000000 →
                        zR (Int.tdiv y31 4) ∧ (zR (Int.tdiv y31 32) ∧ (zR (Int.tmod (Int.tdiv y31 4) 8) ∧ (zR (Int.tmod y31 4) ∧ (q_M_bores (Int.tdiv y31 32) (Int.tmod (Int.tdiv y31 4) 8) (Int.tmod y31 4) (σ33 53 y31) n_ (fun r48 σ47 =>
                                  (r48 ≠ 0 →
                                    I88 1 (y31 + 1) σ47 ∧ zR (y31 + 1) ∧ μ88 1 (y31 + 1) σ47 < μ88 y30 y31 σ32) ∧ (r48 = 0 →
                                    (y30 = 0 →
                                      I88 0 (y31 + 1) σ47 ∧ zR (y31 + 1) ∧ μ88 0 (y31 + 1) σ47 < μ88 y30 y31 σ32) ∧ (y30 ≠ 0 →
                                      I88 1 (y31 + 1) σ47 ∧ zR (y31 + 1) ∧ μ88 1 (y31 + 1) σ47 < μ88 y30 y31 σ32))) σ33))))))))) σ32)) σ9) ∧ (y8 < 2592 →
          (0 ≤ y8 ∧ y8 < 2592) ∧ (∀ σ58 : zS, σ58 = zU σ9 53 y8 1000000000 → I43 (y8 + 1) σ58 ∧ zR (y8 + 1) ∧ μ43 (y8 + 1) σ58 < μ43 y8 σ9))) ∧ (0 < (σ5 41 0) →
        K 0 σ5)) ∧
    (((σ3 41 0) ≠ 0 →
        J31 σ3) ∧ ((σ3 41 0) = 0 →
        q_M_isIn n_ 0 3 (fun r63 σ62 =>
          (r63 ≠ 0 →
            J31 σ62) ∧ (r63 = 0 →
            ∀ σ65 : zS, σ65 = zU σ62 41 0 2 → J31 σ65)) σ3))) σ
abbrev rm_M_bored : Room := { frames := 5, cells := 0, slots := 0, locals := 125 }
set_option maxRecDepth 20000 in
set_option maxHeartbeats 4000000 in
theorem s_M_bored {Ω : zO} {ad : Nat → Nat} {from_ : Int} {to_ : Int} {n_ : Int} {K : Int → zS → Prop} {σ : zS} (hfrom_ : zR from_) (hto_ : zR to_) (hn_ : zR n_) (h : q_M_bored from_ to_ n_ K σ) : zMi Ω y_M_bored (.code y_M_bored c_M_bored 7 (some .int)) rm_M_bored zLy ad [.ref (ad 41), .int (zI from_), .int (zI to_), .int (zI n_)] σ K := by
  refine z_ofi (lv := [(0, .ref (ad 41)), (1, .int (zI from_)), (2, .int (zI to_)), (3, .int (zI n_))]) (by decide) rfl (Nat.le_of_ble_eq_true rfl) ?_
  intro Γ Q cx rt
  unfold q_M_bored at h
  refine v_aload_n cx 0 d_M_bored_0 rfl rfl ?_
  refine v_aload_n cx 0 d_M_bored_1 rfl rfl ?_
  refine v_iload_n cx 1 d_M_bored_2 rfl rfl ?_
  refine v_iload_n cx 2 d_M_bored_3 rfl rfl ?_
  refine v_callVi0 (st := [.ref (ad 41)]) cx (s_M_two hfrom_ hto_ h) yk_M_two lk_M_299 zl_41 rfl rfl rfl (Nat.le_of_ble_eq_true rfl) ⟨Nat.le_of_ble_eq_true rfl, Nat.le_of_ble_eq_true rfl⟩ ⟨rfl, rfl⟩ ⟨(Nat.le_of_ble_eq_true rfl), (Nat.le_of_ble_eq_true rfl)⟩ d_M_bored_4 (fun r2 σ1 hr2 h => ?_)
  refine pf_M_87 cx hr2 d_M_bored_7 ?_
  refine v_ns (fun σ3 eσ3 => ?_)
  replace h := h σ3 eσ3
  refine v_aload_n cx 0 d_M_bored_10 rfl rfl ?_
  refine gf_M_87 cx d_M_bored_11 (fun hl4 => ?_)
  obtain ⟨J31, hJ31, h⟩ := h
  have G31 : ∀ (σ5 : zS), J31 σ5 → zV Ω Γ rm_M_bored 7 Q 0 0 zLy ad σ5 31 [(0, .ref (ad 41)), (1, .int (zI from_)), (2, .int (zI to_)), (3, .int (zI n_))] [] := by
    intro σ5 hJ 
    replace h := hJ31 σ5 hJ 
    refine v_aload_n cx 0 d_M_bored_31 rfl rfl ?_
    refine gf_M_87 cx d_M_bored_32 (fun hl6 => ?_)
    refine v_if_le cx 40 d_M_bored_35 (by decide) hl6 (fun c7 => ?_) (fun c7 => ?_)
    · replace h := h.1 c7
      refine v_iconst cx d_M_bored_40 ?_
      refine v_istore (lv' := [(0, .ref (ad 41)), (1, .int (zI from_)), (2, .int (zI to_)), (3, .int (zI n_)), (4, .int (zI 0))]) cx d_M_bored_41 (by decide) rfl rfl ?_
      obtain ⟨I43, μ43, h0, h⟩ := h
      have L43 : ∀ (N43 : Nat) (y8 : Int) (σ9 : zS), μ43 y8 σ9 < N43 → I43 y8 σ9 → zR y8 → zV Ω Γ rm_M_bored 7 Q 0 0 zLy ad σ9 43 [(0, .ref (ad 41)), (1, .int (zI from_)), (2, .int (zI to_)), (3, .int (zI n_)), (4, .int (zI y8))] [] := by
        intro N43
        induction N43 with
        | zero => intro y8 σ9 hm; exact absurd hm (Nat.not_lt_zero _)
        | succ N43 ih43 =>
          intro y8 σ9 hmm43 hI hy8
          replace h := h y8 σ9 hI hy8
          refine v_iload cx 4 d_M_bored_43 rfl ?_
          refine v_sipush cx (by decide) d_M_bored_45 ?_
          refine v_icmp_ge cx 66 d_M_bored_48 (by decide) hy8 ⟨by decide, by decide⟩ (fun c10 => ?_) (fun c10 => ?_)
          · replace h := h.1 c10
            refine v_aload_n cx 0 d_M_bored_66 rfl rfl ?_
            refine v_iload_n cx 1 d_M_bored_67 rfl rfl ?_
            refine v_iconst cx d_M_bored_68 ?_
            refine v_iconst cx d_M_bored_69 ?_
            refine v_iconst cx d_M_bored_70 ?_
            refine v_iload_n cx 3 d_M_bored_71 rfl rfl ?_
            refine v_callVz0 (st := []) cx (s_M_bores hfrom_ ⟨by decide, by decide⟩ ⟨by decide, by decide⟩ ⟨by decide, by decide⟩ hn_ h) yk_M_bores lk_M_337 zl_41 rfl rfl rfl (Nat.le_of_ble_eq_true rfl) ⟨Nat.le_of_ble_eq_true rfl, Nat.le_of_ble_eq_true rfl⟩ ⟨rfl, rfl⟩ ⟨(Nat.le_of_ble_eq_true rfl), (Nat.le_of_ble_eq_true rfl)⟩ d_M_bored_72 (fun r12 σ11 hr12 h => ?_)
            refine v_istore (lv' := [(0, .ref (ad 41)), (1, .int (zI from_)), (2, .int (zI to_)), (3, .int (zI n_)), (4, .int (zI r12))]) cx d_M_bored_75 (by decide) rfl rfl ?_
            refine v_sb (lv' := [(0, .ref (ad 41)), (2, .int (zI to_)), (3, .int (zI n_)), (4, .int (zI r12))]) [0, 2, 3, 4] rfl ?_
            obtain ⟨I77, μ77, h0, h⟩ := h
            have L77 : ∀ (N77 : Nat) (y13 : Int) (σ14 : zS), μ77 y13 σ14 < N77 → I77 y13 σ14 → zR y13 → zV Ω Γ rm_M_bored 7 Q 0 0 zLy ad σ14 77 [(0, .ref (ad 41)), (2, .int (zI to_)), (3, .int (zI n_)), (4, .int (zI y13))] [] := by
              intro N77
              induction N77 with
              | zero => intro y13 σ14 hm; exact absurd hm (Nat.not_lt_zero _)
              | succ N77 ih77 =>
                intro y13 σ14 hmm77 hI hy13
                replace h := h y13 σ14 hI hy13
                refine v_iload cx 3 d_M_bored_77 rfl ?_
                refine v_if_eq cx 164 d_M_bored_79 (by decide) hy13 (fun c15 => ?_) (fun c15 => ?_)
                · replace h := h.1 c15
                  refine v_ldc cx ct_M_155 d_M_bored_164 ?_
                  refine v_istore (lv' := [(0, .ref (ad 41)), (2, .int (zI to_)), (3, .int (zI n_)), (4, .int (zI y13)), (5, .int (zI 1000000000))]) cx d_M_bored_166 (by decide) rfl rfl ?_
                  refine v_bipush cx (by decide) d_M_bored_168 ?_
                  refine v_iload_n cx 1 d_M_bored_170 rfl rfl ?_
                  refine v_imul cx d_M_bored_171 ?_
                  refine v_nm (fun x16 ex16 => ?_)
                  replace h := h x16 ex16
                  refine v_istore (lv' := [(0, .ref (ad 41)), (2, .int (zI to_)), (3, .int (zI n_)), (4, .int (zI y13)), (5, .int (zI 1000000000)), (6, .int (zI x16))]) cx d_M_bored_172 (by decide) rfl rfl ?_
                  refine v_sb (lv' := [(0, .ref (ad 41)), (2, .int (zI to_)), (5, .int (zI 1000000000)), (6, .int (zI x16))]) [0, 1, 4, 5] rfl ?_
                  obtain ⟨I174, μ174, h0, h⟩ := h
                  obtain ⟨h0, hi20⟩ := h0
                  have L174 : ∀ (N174 : Nat) (y17 y18 : Int) (σ19 : zS), μ174 y17 y18 σ19 < N174 → I174 y17 y18 σ19 → zR y17 → zR y18 → zV Ω Γ rm_M_bored 7 Q 0 0 zLy ad σ19 174 [(0, .ref (ad 41)), (2, .int (zI to_)), (5, .int (zI y17)), (6, .int (zI y18))] [] := by
                    intro N174
                    induction N174 with
                    | zero => intro y17 y18 σ19 hm; exact absurd hm (Nat.not_lt_zero _)
                    | succ N174 ih174 =>
                      intro y17 y18 σ19 hmm174 hI hy17 hy18
                      replace h := h y17 y18 σ19 hI hy17 hy18
                      refine v_iload cx 3 d_M_bored_174 rfl ?_
                      refine v_bipush cx (by decide) d_M_bored_176 ?_
                      refine v_iload_n cx 1 d_M_bored_178 rfl rfl ?_
                      refine v_imul cx d_M_bored_179 ?_
                      refine v_bipush cx (by decide) d_M_bored_180 ?_
                      refine v_iadd cx d_M_bored_182 ?_
                      obtain ⟨hr21, h⟩ := h
                      refine v_icmp_ge cx 206 d_M_bored_183 (by decide) hy18 hr21 (fun c22 => ?_) (fun c22 => ?_)
                      · replace h := h.1 c22
                        refine v_iload cx 2 d_M_bored_206 rfl ?_
                        refine v_ldc cx ct_M_155 d_M_bored_208 ?_
                        refine v_icmp_ne cx 217 d_M_bored_210 (by decide) hy17 ⟨by decide, by decide⟩ (fun c23 => ?_) (fun c23 => ?_)
                        · replace h := h.1 c23
                          refine v_iload cx 2 d_M_bored_217 rfl ?_
                          exact rt _ _ _ _ _ _ (Nat.le_of_ble_eq_true rfl) (Nat.le_of_ble_eq_true rfl) d_M_bored_219 hy17 h
                        · replace h := h.2 c23
                          refine v_iconst cx d_M_bored_213 ?_
                          refine v_goto cx 219 d_M_bored_214 (by decide) ?_
                          exact rt _ _ _ _ _ _ (Nat.le_of_ble_eq_true rfl) (Nat.le_of_ble_eq_true rfl) d_M_bored_219 ⟨by decide, by decide⟩ h
                      · replace h := h.2 c22
                        refine v_iload cx 2 d_M_bored_186 rfl ?_
                        refine v_aload_n cx 0 d_M_bored_188 rfl rfl ?_
                        refine gf_M_47 cx d_M_bored_189 ?_
                        refine v_iload cx 3 d_M_bored_192 rfl ?_
                        obtain ⟨hb24, h⟩ := h
                        refine v_iald cx zl_53 (by decide) hb24.1 hb24.2 d_M_bored_194 (fun hl25 => ?_)
                        refine v_callSi0 (st := []) cx (s_M_lesser hy17 hl25 h) yk_M_lesser lk_M_184 rfl rfl (Nat.le_of_ble_eq_true rfl) ⟨Nat.le_of_ble_eq_true rfl, Nat.le_of_ble_eq_true rfl⟩ ⟨rfl, rfl⟩ ⟨(Nat.le_of_ble_eq_true rfl), (Nat.le_of_ble_eq_true rfl)⟩ d_M_bored_195 (fun r27 σ26 hr27 h => ?_)
                        refine v_istore (lv' := [(0, .ref (ad 41)), (2, .int (zI to_)), (5, .int (zI r27)), (6, .int (zI y18))]) cx d_M_bored_198 (by decide) rfl rfl ?_
                        refine v_iinc (lv' := [(0, .ref (ad 41)), (2, .int (zI to_)), (5, .int (zI r27)), (6, .int (zI (y18 + 1)))]) cx 3 d_M_bored_200 rfl (by decide) rfl rfl ?_
                        refine v_goto cx 174 d_M_bored_203 (by decide) ?_
                        obtain ⟨hI2, hz29, hm2⟩ := h
                        exact ih174 _ _ _ (Nat.lt_of_lt_of_le hm2 (Nat.le_of_lt_succ hmm174)) hI2 hr27 hz29
                  exact L174 _ _ _ _ (Nat.lt_succ_self _) h0 ⟨by decide, by decide⟩ hi20
                · replace h := h.2 c15
                  refine v_iconst cx d_M_bored_82 ?_
                  refine v_istore (lv' := [(0, .ref (ad 41)), (2, .int (zI to_)), (3, .int (zI n_)), (4, .int (zI 0))]) cx d_M_bored_83 (by decide) rfl rfl ?_
                  refine v_iconst cx d_M_bored_85 ?_
                  refine v_istore (lv' := [(0, .ref (ad 41)), (2, .int (zI to_)), (3, .int (zI n_)), (4, .int (zI 0)), (5, .int (zI 0))]) cx d_M_bored_86 (by decide) rfl rfl ?_
                  obtain ⟨I88, μ88, h0, h⟩ := h
                  have L88 : ∀ (N88 : Nat) (y30 y31 : Int) (σ32 : zS), μ88 y30 y31 σ32 < N88 → I88 y30 y31 σ32 → zR y30 → zR y31 → zV Ω Γ rm_M_bored 7 Q 0 0 zLy ad σ32 88 [(0, .ref (ad 41)), (2, .int (zI to_)), (3, .int (zI n_)), (4, .int (zI y30)), (5, .int (zI y31))] [] := by
                    intro N88
                    induction N88 with
                    | zero => intro y30 y31 σ32 hm; exact absurd hm (Nat.not_lt_zero _)
                    | succ N88 ih88 =>
                      intro y30 y31 σ32 hmm88 hI hy30 hy31
                      replace h := h y30 y31 σ32 hI hy30 hy31
                      refine v_iload cx 4 d_M_bored_88 rfl ?_
                      refine v_bipush cx (by decide) d_M_bored_90 ?_
                      refine v_aload_n cx 0 d_M_bored_92 rfl rfl ?_
                      refine v_callVi0 (st := [.int (zI 32), .int (zI y31)]) cx (s_M_places  h) yk_M_places lk_M_90 zl_41 rfl rfl rfl (Nat.le_of_ble_eq_true rfl) ⟨Nat.le_of_ble_eq_true rfl, Nat.le_of_ble_eq_true rfl⟩ ⟨rfl, rfl⟩ ⟨(Nat.le_of_ble_eq_true rfl), (Nat.le_of_ble_eq_true rfl)⟩ d_M_bored_93 (fun r34 σ33 hr34 h => ?_)
                      refine v_imul cx d_M_bored_96 ?_
                      obtain ⟨hr35, h⟩ := h
                      refine v_icmp_ge cx 161 d_M_bored_97 (by decide) hy31 hr35 (fun c36 => ?_) (fun c36 => ?_)
                      · replace h := h.1 c36
                        refine v_goto cx 77 d_M_bored_161 (by decide) ?_
                        refine v_sb (lv' := [(0, .ref (ad 41)), (2, .int (zI to_)), (3, .int (zI n_)), (4, .int (zI y30))]) [0, 1, 2, 3] rfl ?_
                        obtain ⟨hI2, hm2⟩ := h
                        exact ih77 _ _ (Nat.lt_of_lt_of_le hm2 (Nat.le_of_lt_succ hmm77)) hI2 hy30
                      · replace h := h.2 c36
                        refine v_aload_n cx 0 d_M_bored_100 rfl rfl ?_
                        refine gf_M_47 cx d_M_bored_101 ?_
                        refine v_iload cx 4 d_M_bored_104 rfl ?_
                        obtain ⟨hb37, h⟩ := h
                        refine v_iald cx zl_53 (by decide) hb37.1 hb37.2 d_M_bored_106 (fun hl38 => ?_)
                        refine v_ldc cx ct_M_155 d_M_bored_107 ?_
                        refine v_icmp_ge cx 155 d_M_bored_109 (by decide) hl38 ⟨by decide, by decide⟩ (fun c39 => ?_) (fun c39 => ?_)
                        · replace h := h.1 c39
                          refine v_iinc (lv' := [(0, .ref (ad 41)), (2, .int (zI to_)), (3, .int (zI n_)), (4, .int (zI y30)), (5, .int (zI (y31 + 1)))]) cx 4 d_M_bored_155 rfl (by decide) rfl rfl ?_
                          refine v_goto cx 88 d_M_bored_158 (by decide) ?_
                          obtain ⟨hI2, hz41, hm2⟩ := h
                          exact ih88 _ _ _ (Nat.lt_of_lt_of_le hm2 (Nat.le_of_lt_succ hmm88)) hI2 hy30 hz41
                        · replace h := h.2 c39
                          refine v_aload_n cx 0 d_M_bored_112 rfl rfl ?_
                          refine v_iload cx 4 d_M_bored_113 rfl ?_
                          refine v_bipush cx (by decide) d_M_bored_115 ?_
                          refine v_idiv cx d_M_bored_117 hy31 ⟨by decide, by decide⟩ (by decide) (Or.inr (by decide)) ?_
                          refine v_iload cx 4 d_M_bored_118 rfl ?_
                          refine v_iconst cx d_M_bored_120 ?_
                          refine v_idiv cx d_M_bored_121 hy31 ⟨by decide, by decide⟩ (by decide) (Or.inr (by decide)) ?_
                          refine v_bipush cx (by decide) d_M_bored_122 ?_
                          obtain ⟨hr42, h⟩ := h
                          refine v_irem cx d_M_bored_124 hr42 ⟨by decide, by decide⟩ (by decide) ?_
                          refine v_iload cx 4 d_M_bored_125 rfl ?_
                          refine v_iconst cx d_M_bored_127 ?_
                          refine v_irem cx d_M_bored_128 hy31 ⟨by decide, by decide⟩ (by decide) ?_
                          refine v_aload_n cx 0 d_M_bored_129 rfl rfl ?_
                          refine gf_M_47 cx d_M_bored_130 ?_
                          refine v_iload cx 4 d_M_bored_133 rfl ?_
                          refine v_iald cx zl_53 (by decide) hb37.1 hb37.2 d_M_bored_135 (fun hl43 => ?_)
                          refine v_iload_n cx 2 d_M_bored_136 rfl rfl ?_
                          obtain ⟨hr44, h⟩ := h
                          obtain ⟨hr45, h⟩ := h
                          obtain ⟨hr46, h⟩ := h
                          refine v_callVz0 (st := []) cx (s_M_bores hr44 hr45 hr46 hl43 hn_ h) yk_M_bores lk_M_337 zl_41 rfl rfl rfl (Nat.le_of_ble_eq_true rfl) ⟨Nat.le_of_ble_eq_true rfl, Nat.le_of_ble_eq_true rfl⟩ ⟨rfl, rfl⟩ ⟨(Nat.le_of_ble_eq_true rfl), (Nat.le_of_ble_eq_true rfl)⟩ d_M_bored_137 (fun r48 σ47 hr48 h => ?_)
                          refine v_if_ne cx 148 d_M_bored_140 (by decide) (zR_b hr48) (fun c49 => ?_) (fun c49 => ?_)
                          · replace h := h.1 c49
                            refine v_iconst cx d_M_bored_148 ?_
                            refine v_goto cx 153 d_M_bored_149 (by decide) ?_
                            refine v_istore (lv' := [(0, .ref (ad 41)), (2, .int (zI to_)), (3, .int (zI n_)), (4, .int (zI 1)), (5, .int (zI y31))]) cx d_M_bored_153 (by decide) rfl rfl ?_
                            refine v_iinc (lv' := [(0, .ref (ad 41)), (2, .int (zI to_)), (3, .int (zI n_)), (4, .int (zI 1)), (5, .int (zI (y31 + 1)))]) cx 4 d_M_bored_155 rfl (by decide) rfl rfl ?_
                            refine v_goto cx 88 d_M_bored_158 (by decide) ?_
                            obtain ⟨hI2, hz51, hm2⟩ := h
                            exact ih88 _ _ _ (Nat.lt_of_lt_of_le hm2 (Nat.le_of_lt_succ hmm88)) hI2 ⟨by decide, by decide⟩ hz51
                          · replace h := h.2 c49
                            refine v_iload cx 3 d_M_bored_143 rfl ?_
                            refine v_if_eq cx 152 d_M_bored_145 (by decide) hy30 (fun c52 => ?_) (fun c52 => ?_)
                            · replace h := h.1 c52
                              refine v_iconst cx d_M_bored_152 ?_
                              refine v_istore (lv' := [(0, .ref (ad 41)), (2, .int (zI to_)), (3, .int (zI n_)), (4, .int (zI 0)), (5, .int (zI y31))]) cx d_M_bored_153 (by decide) rfl rfl ?_
                              refine v_iinc (lv' := [(0, .ref (ad 41)), (2, .int (zI to_)), (3, .int (zI n_)), (4, .int (zI 0)), (5, .int (zI (y31 + 1)))]) cx 4 d_M_bored_155 rfl (by decide) rfl rfl ?_
                              refine v_goto cx 88 d_M_bored_158 (by decide) ?_
                              obtain ⟨hI2, hz54, hm2⟩ := h
                              exact ih88 _ _ _ (Nat.lt_of_lt_of_le hm2 (Nat.le_of_lt_succ hmm88)) hI2 ⟨by decide, by decide⟩ hz54
                            · replace h := h.2 c52
                              refine v_iconst cx d_M_bored_148 ?_
                              refine v_goto cx 153 d_M_bored_149 (by decide) ?_
                              refine v_istore (lv' := [(0, .ref (ad 41)), (2, .int (zI to_)), (3, .int (zI n_)), (4, .int (zI 1)), (5, .int (zI y31))]) cx d_M_bored_153 (by decide) rfl rfl ?_
                              refine v_iinc (lv' := [(0, .ref (ad 41)), (2, .int (zI to_)), (3, .int (zI n_)), (4, .int (zI 1)), (5, .int (zI (y31 + 1)))]) cx 4 d_M_bored_155 rfl (by decide) rfl rfl ?_
                              refine v_goto cx 88 d_M_bored_158 (by decide) ?_
                              obtain ⟨hI2, hz56, hm2⟩ := h
                              exact ih88 _ _ _ (Nat.lt_of_lt_of_le hm2 (Nat.le_of_lt_succ hmm88)) hI2 ⟨by decide, by decide⟩ hz56
                  exact L88 _ _ _ _ (Nat.lt_succ_self _) h0 ⟨by decide, by decide⟩ ⟨by decide, by decide⟩
            exact L77 _ _ _ (Nat.lt_succ_self _) h0 (zR_b hr12)
          · replace h := h.2 c10
            refine v_aload_n cx 0 d_M_bored_51 rfl rfl ?_
            refine gf_M_47 cx d_M_bored_52 ?_
            refine v_iload cx 4 d_M_bored_55 rfl ?_
            refine v_ldc cx ct_M_155 d_M_bored_57 ?_
            obtain ⟨hb57, h⟩ := h
            refine v_iast cx zl_53 (by decide) hb57.1 hb57.2 ⟨by decide, by decide⟩ d_M_bored_59 ?_
            refine v_ns (fun σ58 eσ58 => ?_)
            replace h := h σ58 eσ58
            refine v_iinc (lv' := [(0, .ref (ad 41)), (1, .int (zI from_)), (2, .int (zI to_)), (3, .int (zI n_)), (4, .int (zI (y8 + 1)))]) cx 4 d_M_bored_60 rfl (by decide) rfl rfl ?_
            refine v_goto cx 43 d_M_bored_63 (by decide) ?_
            obtain ⟨hI2, hz60, hm2⟩ := h
            exact ih43 _ _ (Nat.lt_of_lt_of_le hm2 (Nat.le_of_lt_succ hmm43)) hI2 hz60
      exact L43 _ _ _ (Nat.lt_succ_self _) h0 ⟨by decide, by decide⟩
    · replace h := h.2 c7
      refine v_iconst cx d_M_bored_38 ?_
      exact rt _ _ _ _ _ _ (Nat.le_of_ble_eq_true rfl) (Nat.le_of_ble_eq_true rfl) d_M_bored_39 ⟨by decide, by decide⟩ h
  refine v_if_ne cx 31 d_M_bored_14 (by decide) hl4 (fun c61 => ?_) (fun c61 => ?_)
  · replace h := h.1 c61
    have hJ2 := h
    exact G31 _ hJ2 
  · replace h := h.2 c61
    refine v_iload_n cx 3 d_M_bored_17 rfl rfl ?_
    refine v_iconst cx d_M_bored_18 ?_
    refine v_iconst cx d_M_bored_19 ?_
    refine v_callSz0 (st := []) cx (s_M_isIn hn_ ⟨by decide, by decide⟩ ⟨by decide, by decide⟩ h) yk_M_isIn lk_M_94 rfl rfl (Nat.le_of_ble_eq_true rfl) ⟨Nat.le_of_ble_eq_true rfl, Nat.le_of_ble_eq_true rfl⟩ ⟨rfl, rfl⟩ ⟨(Nat.le_of_ble_eq_true rfl), (Nat.le_of_ble_eq_true rfl)⟩ d_M_bored_20 (fun r63 σ62 hr63 h => ?_)
    refine v_if_ne cx 31 d_M_bored_23 (by decide) (zR_b hr63) (fun c64 => ?_) (fun c64 => ?_)
    · replace h := h.1 c64
      have hJ2 := h
      exact G31 _ hJ2 
    · replace h := h.2 c64
      refine v_aload_n cx 0 d_M_bored_26 rfl rfl ?_
      refine v_iconst cx d_M_bored_27 ?_
      refine pf_M_87 cx ⟨by decide, by decide⟩ d_M_bored_28 ?_
      refine v_ns (fun σ65 eσ65 => ?_)
      replace h := h σ65 eσ65
      have hJ2 := h
      exact G31 _ hJ2 
def q_M_addsFrom (from_ : Int) (K : zS → Prop) (σ : zS) : Prop :=
  q_M_goesFrom from_ (fun σ1 =>
    ∃ (I7 : Int → zS → Prop) (μ7 : Int → zS → Nat), (I7 0 σ1) ∧ ∀ (y2 : Int) (σ3 : zS), I7 y2 σ3 → zR y2 → 
    q_M_places (fun r5 σ4 =>
      (r5 ≤ y2 →
        K σ4) ∧ (y2 < r5 →
        ∃ J29 : Int → zS → Prop, (∀ (w7 : Int) (σ8 : zS), J29 w7 σ8 → zR w7 → 
          (w7 = 1000000000 →
            (0 ≤ y2 ∧ y2 < 81) ∧ (∀ σ11 : zS, σ11 = zU σ8 59 y2 1000000000 → I7 (y2 + 1) σ11 ∧ zR (y2 + 1) ∧ μ7 (y2 + 1) σ11 < μ7 y2 σ3)) ∧ (w7 ≠ 1000000000 →
            (0 ≤ y2 ∧ y2 < 81) ∧ (((σ8 59 y2) ≠ 1000000000 →
                zR ((σ8 59 y2) + w7) ∧ (∀ σ19 : zS, σ19 = zU σ8 59 y2 ((σ8 59 y2) + w7) → I7 (y2 + 1) σ19 ∧ zR (y2 + 1) ∧ μ7 (y2 + 1) σ19 < μ7 y2 σ3)) ∧ ((σ8 59 y2) = 1000000000 →
                ∀ σ22 : zS, σ22 = zU σ8 59 y2 1000000000 → I7 (y2 + 1) σ22 ∧ zR (y2 + 1) ∧ μ7 (y2 + 1) σ22 < μ7 y2 σ3)))) ∧
        ((y2 ≠ from_ →
            q_M_costAt y2 (fun r27 σ26 =>
              J29 r27 σ26) σ4) ∧ (y2 = from_ →
            J29 0 σ4)))) σ3) σ
abbrev rm_M_addsFrom : Room := { frames := 5, cells := 0, slots := 0, locals := 121 }
set_option maxRecDepth 20000 in
set_option maxHeartbeats 4000000 in
theorem s_M_addsFrom {Ω : zO} {ad : Nat → Nat} {from_ : Int} {K : zS → Prop} {σ : zS} (hfrom_ : zR from_) (h : q_M_addsFrom from_ K σ) : zMv Ω y_M_addsFrom (.code y_M_addsFrom c_M_addsFrom 4 none) rm_M_addsFrom zLy ad [.ref (ad 41), .int (zI from_)] σ K := by
  refine z_ofv (lv := [(0, .ref (ad 41)), (1, .int (zI from_))]) (by decide) rfl (Nat.le_of_ble_eq_true rfl) ?_
  intro Γ Q cx rt
  unfold q_M_addsFrom at h
  refine v_aload_n cx 0 d_M_addsFrom_0 rfl rfl ?_
  refine v_iload_n cx 1 d_M_addsFrom_1 rfl rfl ?_
  refine v_callVv0 (st := []) cx (s_M_goesFrom hfrom_ h) yk_M_goesFrom lk_M_187 zl_41 rfl rfl rfl (Nat.le_of_ble_eq_true rfl) ⟨Nat.le_of_ble_eq_true rfl, Nat.le_of_ble_eq_true rfl⟩ ⟨rfl, rfl⟩ ⟨(Nat.le_of_ble_eq_true rfl), (Nat.le_of_ble_eq_true rfl)⟩ d_M_addsFrom_2 (fun σ1 h => ?_)
  refine v_iconst cx d_M_addsFrom_5 ?_
  refine v_istore_n (lv' := [(0, .ref (ad 41)), (1, .int (zI from_)), (2, .int (zI 0))]) cx d_M_addsFrom_6 rfl (by decide) rfl rfl ?_
  obtain ⟨I7, μ7, h0, h⟩ := h
  have L7 : ∀ (N7 : Nat) (y2 : Int) (σ3 : zS), μ7 y2 σ3 < N7 → I7 y2 σ3 → zR y2 → zV Ω Γ rm_M_addsFrom 4 Q 0 0 zLy ad σ3 7 [(0, .ref (ad 41)), (1, .int (zI from_)), (2, .int (zI y2))] [] := by
    intro N7
    induction N7 with
    | zero => intro y2 σ3 hm; exact absurd hm (Nat.not_lt_zero _)
    | succ N7 ih7 =>
      intro y2 σ3 hmm7 hI hy2
      replace h := h y2 σ3 hI hy2
      refine v_iload_n cx 2 d_M_addsFrom_7 rfl rfl ?_
      refine v_aload_n cx 0 d_M_addsFrom_8 rfl rfl ?_
      refine v_callVi0 (st := [.int (zI y2)]) cx (s_M_places  h) yk_M_places lk_M_90 zl_41 rfl rfl rfl (Nat.le_of_ble_eq_true rfl) ⟨Nat.le_of_ble_eq_true rfl, Nat.le_of_ble_eq_true rfl⟩ ⟨rfl, rfl⟩ ⟨(Nat.le_of_ble_eq_true rfl), (Nat.le_of_ble_eq_true rfl)⟩ d_M_addsFrom_9 (fun r5 σ4 hr5 h => ?_)
      refine v_icmp_ge cx 72 d_M_addsFrom_12 (by decide) hy2 hr5 (fun c6 => ?_) (fun c6 => ?_)
      · replace h := h.1 c6
        exact rt _ _ _ _ _ (Nat.le_of_ble_eq_true rfl) (Nat.le_of_ble_eq_true rfl) d_M_addsFrom_72 h
      · replace h := h.2 c6
        refine v_iload_n cx 2 d_M_addsFrom_15 rfl rfl ?_
        refine v_iload_n cx 1 d_M_addsFrom_16 rfl rfl ?_
        obtain ⟨J29, hJ29, h⟩ := h
        have G29 : ∀ (w7 : Int) (σ8 : zS), J29 w7 σ8 → zR w7 → zV Ω Γ rm_M_addsFrom 4 Q 0 0 zLy ad σ8 29 [(0, .ref (ad 41)), (1, .int (zI from_)), (2, .int (zI y2))] [.int (zI w7)] := by
          intro w7 σ8 hJ hw7
          replace h := hJ29 w7 σ8 hJ hw7
          refine v_istore_n (lv' := [(0, .ref (ad 41)), (1, .int (zI from_)), (2, .int (zI y2)), (3, .int (zI w7))]) cx d_M_addsFrom_29 rfl (by decide) rfl rfl ?_
          refine v_aload_n cx 0 d_M_addsFrom_30 rfl rfl ?_
          refine gf_M_66 cx d_M_addsFrom_31 ?_
          refine v_iload_n cx 2 d_M_addsFrom_34 rfl rfl ?_
          refine v_iload_n cx 3 d_M_addsFrom_35 rfl rfl ?_
          refine v_ldc cx ct_M_155 d_M_addsFrom_36 ?_
          refine v_icmp_eq cx 52 d_M_addsFrom_38 (by decide) hw7 ⟨by decide, by decide⟩ (fun c9 => ?_) (fun c9 => ?_)
          · replace h := h.1 c9
            refine v_ldc cx ct_M_155 d_M_addsFrom_52 ?_
            refine v_goto cx 65 d_M_addsFrom_54 (by decide) ?_
            obtain ⟨hb10, h⟩ := h
            refine v_iast cx zl_59 (by decide) hb10.1 hb10.2 ⟨by decide, by decide⟩ d_M_addsFrom_65 ?_
            refine v_ns (fun σ11 eσ11 => ?_)
            replace h := h σ11 eσ11
            refine v_iinc (lv' := [(0, .ref (ad 41)), (1, .int (zI from_)), (2, .int (zI (y2 + 1))), (3, .int (zI w7))]) cx 2 d_M_addsFrom_66 rfl (by decide) rfl rfl ?_
            refine v_goto cx 7 d_M_addsFrom_69 (by decide) ?_
            refine v_sb (lv' := [(0, .ref (ad 41)), (1, .int (zI from_)), (2, .int (zI (y2 + 1)))]) [0, 1, 2] rfl ?_
            obtain ⟨hI2, hz13, hm2⟩ := h
            exact ih7 _ _ (Nat.lt_of_lt_of_le hm2 (Nat.le_of_lt_succ hmm7)) hI2 hz13
          · replace h := h.2 c9
            refine v_aload_n cx 0 d_M_addsFrom_41 rfl rfl ?_
            refine gf_M_66 cx d_M_addsFrom_42 ?_
            refine v_iload_n cx 2 d_M_addsFrom_45 rfl rfl ?_
            obtain ⟨hb14, h⟩ := h
            refine v_iald cx zl_59 (by decide) hb14.1 hb14.2 d_M_addsFrom_46 (fun hl15 => ?_)
            refine v_ldc cx ct_M_155 d_M_addsFrom_47 ?_
            refine v_icmp_ne cx 57 d_M_addsFrom_49 (by decide) hl15 ⟨by decide, by decide⟩ (fun c16 => ?_) (fun c16 => ?_)
            · replace h := h.1 c16
              refine v_aload_n cx 0 d_M_addsFrom_57 rfl rfl ?_
              refine gf_M_66 cx d_M_addsFrom_58 ?_
              refine v_iload_n cx 2 d_M_addsFrom_61 rfl rfl ?_
              refine v_iald cx zl_59 (by decide) hb14.1 hb14.2 d_M_addsFrom_62 (fun hl17 => ?_)
              refine v_iload_n cx 3 d_M_addsFrom_63 rfl rfl ?_
              refine v_iadd cx d_M_addsFrom_64 ?_
              obtain ⟨hr18, h⟩ := h
              refine v_iast cx zl_59 (by decide) hb14.1 hb14.2 hr18 d_M_addsFrom_65 ?_
              refine v_ns (fun σ19 eσ19 => ?_)
              replace h := h σ19 eσ19
              refine v_iinc (lv' := [(0, .ref (ad 41)), (1, .int (zI from_)), (2, .int (zI (y2 + 1))), (3, .int (zI w7))]) cx 2 d_M_addsFrom_66 rfl (by decide) rfl rfl ?_
              refine v_goto cx 7 d_M_addsFrom_69 (by decide) ?_
              refine v_sb (lv' := [(0, .ref (ad 41)), (1, .int (zI from_)), (2, .int (zI (y2 + 1)))]) [0, 1, 2] rfl ?_
              obtain ⟨hI2, hz21, hm2⟩ := h
              exact ih7 _ _ (Nat.lt_of_lt_of_le hm2 (Nat.le_of_lt_succ hmm7)) hI2 hz21
            · replace h := h.2 c16
              refine v_ldc cx ct_M_155 d_M_addsFrom_52 ?_
              refine v_goto cx 65 d_M_addsFrom_54 (by decide) ?_
              refine v_iast cx zl_59 (by decide) hb14.1 hb14.2 ⟨by decide, by decide⟩ d_M_addsFrom_65 ?_
              refine v_ns (fun σ22 eσ22 => ?_)
              replace h := h σ22 eσ22
              refine v_iinc (lv' := [(0, .ref (ad 41)), (1, .int (zI from_)), (2, .int (zI (y2 + 1))), (3, .int (zI w7))]) cx 2 d_M_addsFrom_66 rfl (by decide) rfl rfl ?_
              refine v_goto cx 7 d_M_addsFrom_69 (by decide) ?_
              refine v_sb (lv' := [(0, .ref (ad 41)), (1, .int (zI from_)), (2, .int (zI (y2 + 1)))]) [0, 1, 2] rfl ?_
              obtain ⟨hI2, hz24, hm2⟩ := h
              exact ih7 _ _ (Nat.lt_of_lt_of_le hm2 (Nat.le_of_lt_succ hmm7)) hI2 hz24
        refine v_icmp_ne cx 24 d_M_addsFrom_17 (by decide) hy2 hfrom_ (fun c25 => ?_) (fun c25 => ?_)
        · replace h := h.1 c25
          refine v_aload_n cx 0 d_M_addsFrom_24 rfl rfl ?_
          refine v_iload_n cx 2 d_M_addsFrom_25 rfl rfl ?_
          refine v_callVi0 (st := []) cx (s_M_costAt hy2 h) yk_M_costAt lk_M_191 zl_41 rfl rfl rfl (Nat.le_of_ble_eq_true rfl) ⟨Nat.le_of_ble_eq_true rfl, Nat.le_of_ble_eq_true rfl⟩ ⟨rfl, rfl⟩ ⟨(Nat.le_of_ble_eq_true rfl), (Nat.le_of_ble_eq_true rfl)⟩ d_M_addsFrom_26 (fun r27 σ26 hr27 h => ?_)
          have hJ2 := h
          exact G29 _ _ hJ2 hr27
        · replace h := h.2 c25
          refine v_iconst cx d_M_addsFrom_20 ?_
          refine v_goto cx 29 d_M_addsFrom_21 (by decide) ?_
          have hJ2 := h
          exact G29 _ _ hJ2 ⟨by decide, by decide⟩
  exact L7 _ _ _ (Nat.lt_succ_self _) h0 ⟨by decide, by decide⟩
def q_M_meet (a : Int) (b : Int) (c : Int) (what : Int) (K : Int → zS → Prop) (σ : zS) : Prop :=
  q_M_isPlace a (fun r2 σ1 =>
    ∃ J63 : Int → zS → Prop, (∀ (w3 : Int) (σ4 : zS), J63 w3 σ4 → zR w3 → 
      ∀ σ5 : zS, σ5 = zU σ4 41 0 w3 → ((σ5 41 0) ≤ 0 →
        ∃ (I78 : Int → zS → Prop) (μ78 : Int → zS → Nat), (I78 0 σ5) ∧ ∀ (y8 : Int) (σ9 : zS), I78 y8 σ9 → zR y8 → 
        (81 ≤ y8 →
          q_M_addsFrom a (fun σ11 =>
            q_M_addsFrom b (fun σ12 =>
              q_M_addsFrom c (fun σ13 =>
                ∃ (I120 : Int → Int → zS → Prop) (μ120 : Int → Int → zS → Nat), (I120 0 1 σ13) ∧ ∀ (y14 y15 : Int) (σ16 : zS), I120 y14 y15 σ16 → zR y14 → zR y15 → 
                q_M_places (fun r18 σ17 =>
                  (r18 ≤ y15 →
                    (0 ≤ y14 ∧ y14 < 81) ∧ (((σ17 59 y14) ≠ 1000000000 →
                        (what ≠ 0 →
                          K (σ17 59 y14) σ17) ∧ (what = 0 →
                          K y14 σ17)) ∧ ((σ17 59 y14) = 1000000000 →
                        K (-1) σ17))) ∧ (y15 < r18 →
                    (0 ≤ y15 ∧ y15 < 81) ∧ ((0 ≤ y14 ∧ y14 < 81) ∧ (((σ17 59 y14) ≤ (σ17 59 y15) →
                          I120 y14 (y15 + 1) σ17 ∧ zR (y15 + 1) ∧ μ120 y14 (y15 + 1) σ17 < μ120 y14 y15 σ16) ∧ ((σ17 59 y15) < (σ17 59 y14) →
                          I120 y15 (y15 + 1) σ17 ∧ zR (y15 + 1) ∧ μ120 y15 (y15 + 1) σ17 < μ120 y14 y15 σ16))))) σ16) σ12) σ11) σ9) ∧ (y8 < 81 →
          (0 ≤ y8 ∧ y8 < 81) ∧ (∀ σ35 : zS, σ35 = zU σ9 59 y8 0 → I78 (y8 + 1) σ35 ∧ zR (y8 + 1) ∧ μ78 (y8 + 1) σ35 < μ78 y8 σ9))) ∧ (0 < (σ5 41 0) →
        K 0 σ5)) ∧
    (∃ J25 : zS → Prop, (∀ (σ38 : zS), J25 σ38 → 
        J63 1 σ38) ∧
      ((r2 = 0 →
          J25 σ1) ∧ (r2 ≠ 0 →
          q_M_isPlace b (fun r41 σ40 =>
            (r41 = 0 →
              J25 σ40) ∧ (r41 ≠ 0 →
              q_M_isPlace c (fun r44 σ43 =>
                (r44 ≠ 0 →
                  q_M_isIn what 0 1 (fun r47 σ46 =>
                    (r47 ≠ 0 →
                      ∃ J58 : Prop, (J58 →
                        J63 3 σ46) ∧
                      ((a = b →
                          J58) ∧ (a ≠ b →
                          (b = c →
                            J58) ∧ (b ≠ c →
                            (a ≠ c →
                              J63 0 σ46) ∧ (a = c →
                              J58))))) ∧ (r47 = 0 →
                      J63 2 σ46)) σ43) ∧ (r44 = 0 →
                  J25 σ43)) σ40)) σ1)))) σ
abbrev rm_M_meet : Room := { frames := 6, cells := 0, slots := 0, locals := 144 }
set_option maxRecDepth 20000 in
set_option maxHeartbeats 4000000 in
theorem s_M_meet {Ω : zO} {ad : Nat → Nat} {a : Int} {b : Int} {c : Int} {what : Int} {K : Int → zS → Prop} {σ : zS} (ha : zR a) (hb : zR b) (hc : zR c) (hwhat : zR what) (h : q_M_meet a b c what K σ) : zMi Ω y_M_meet (.code y_M_meet c_M_meet 7 (some .int)) rm_M_meet zLy ad [.ref (ad 41), .int (zI a), .int (zI b), .int (zI c), .int (zI what)] σ K := by
  refine z_ofi (lv := [(0, .ref (ad 41)), (1, .int (zI a)), (2, .int (zI b)), (3, .int (zI c)), (4, .int (zI what))]) (by decide) rfl (Nat.le_of_ble_eq_true rfl) ?_
  intro Γ Q cx rt
  unfold q_M_meet at h
  refine v_aload_n cx 0 d_M_meet_0 rfl rfl ?_
  refine v_aload_n cx 0 d_M_meet_1 rfl rfl ?_
  refine v_iload_n cx 1 d_M_meet_2 rfl rfl ?_
  refine v_callVz0 (st := [.ref (ad 41)]) cx (s_M_isPlace ha h) yk_M_isPlace lk_M_203 zl_41 rfl rfl rfl (Nat.le_of_ble_eq_true rfl) ⟨Nat.le_of_ble_eq_true rfl, Nat.le_of_ble_eq_true rfl⟩ ⟨rfl, rfl⟩ ⟨(Nat.le_of_ble_eq_true rfl), (Nat.le_of_ble_eq_true rfl)⟩ d_M_meet_3 (fun r2 σ1 hr2 h => ?_)
  obtain ⟨J63, hJ63, h⟩ := h
  have G63 : ∀ (w3 : Int) (σ4 : zS), J63 w3 σ4 → zR w3 → zV Ω Γ rm_M_meet 7 Q 0 0 zLy ad σ4 63 [(0, .ref (ad 41)), (1, .int (zI a)), (2, .int (zI b)), (3, .int (zI c)), (4, .int (zI what))] [.int (zI w3), .ref (ad 41)] := by
    intro w3 σ4 hJ hw3
    replace h := hJ63 w3 σ4 hJ hw3
    refine pf_M_87 cx hw3 d_M_meet_63 ?_
    refine v_ns (fun σ5 eσ5 => ?_)
    replace h := h σ5 eσ5
    refine v_aload_n cx 0 d_M_meet_66 rfl rfl ?_
    refine gf_M_87 cx d_M_meet_67 (fun hl6 => ?_)
    refine v_if_le cx 75 d_M_meet_70 (by decide) hl6 (fun c7 => ?_) (fun c7 => ?_)
    · replace h := h.1 c7
      refine v_iconst cx d_M_meet_75 ?_
      refine v_istore (lv' := [(0, .ref (ad 41)), (1, .int (zI a)), (2, .int (zI b)), (3, .int (zI c)), (4, .int (zI what)), (5, .int (zI 0))]) cx d_M_meet_76 (by decide) rfl rfl ?_
      obtain ⟨I78, μ78, h0, h⟩ := h
      have L78 : ∀ (N78 : Nat) (y8 : Int) (σ9 : zS), μ78 y8 σ9 < N78 → I78 y8 σ9 → zR y8 → zV Ω Γ rm_M_meet 7 Q 0 0 zLy ad σ9 78 [(0, .ref (ad 41)), (1, .int (zI a)), (2, .int (zI b)), (3, .int (zI c)), (4, .int (zI what)), (5, .int (zI y8))] [] := by
        intro N78
        induction N78 with
        | zero => intro y8 σ9 hm; exact absurd hm (Nat.not_lt_zero _)
        | succ N78 ih78 =>
          intro y8 σ9 hmm78 hI hy8
          replace h := h y8 σ9 hI hy8
          refine v_iload cx 5 d_M_meet_78 rfl ?_
          refine v_bipush cx (by decide) d_M_meet_80 ?_
          refine v_icmp_ge cx 99 d_M_meet_82 (by decide) hy8 ⟨by decide, by decide⟩ (fun c10 => ?_) (fun c10 => ?_)
          · replace h := h.1 c10
            refine v_aload_n cx 0 d_M_meet_99 rfl rfl ?_
            refine v_iload_n cx 1 d_M_meet_100 rfl rfl ?_
            refine v_callVv0 (st := []) cx (s_M_addsFrom ha h) yk_M_addsFrom lk_M_340 zl_41 rfl rfl rfl (Nat.le_of_ble_eq_true rfl) ⟨Nat.le_of_ble_eq_true rfl, Nat.le_of_ble_eq_true rfl⟩ ⟨rfl, rfl⟩ ⟨(Nat.le_of_ble_eq_true rfl), (Nat.le_of_ble_eq_true rfl)⟩ d_M_meet_101 (fun σ11 h => ?_)
            refine v_aload_n cx 0 d_M_meet_104 rfl rfl ?_
            refine v_iload_n cx 2 d_M_meet_105 rfl rfl ?_
            refine v_callVv0 (st := []) cx (s_M_addsFrom hb h) yk_M_addsFrom lk_M_340 zl_41 rfl rfl rfl (Nat.le_of_ble_eq_true rfl) ⟨Nat.le_of_ble_eq_true rfl, Nat.le_of_ble_eq_true rfl⟩ ⟨rfl, rfl⟩ ⟨(Nat.le_of_ble_eq_true rfl), (Nat.le_of_ble_eq_true rfl)⟩ d_M_meet_106 (fun σ12 h => ?_)
            refine v_aload_n cx 0 d_M_meet_109 rfl rfl ?_
            refine v_iload_n cx 3 d_M_meet_110 rfl rfl ?_
            refine v_callVv0 (st := []) cx (s_M_addsFrom hc h) yk_M_addsFrom lk_M_340 zl_41 rfl rfl rfl (Nat.le_of_ble_eq_true rfl) ⟨Nat.le_of_ble_eq_true rfl, Nat.le_of_ble_eq_true rfl⟩ ⟨rfl, rfl⟩ ⟨(Nat.le_of_ble_eq_true rfl), (Nat.le_of_ble_eq_true rfl)⟩ d_M_meet_111 (fun σ13 h => ?_)
            refine v_iconst cx d_M_meet_114 ?_
            refine v_istore (lv' := [(0, .ref (ad 41)), (1, .int (zI a)), (2, .int (zI b)), (3, .int (zI c)), (4, .int (zI what)), (5, .int (zI 0))]) cx d_M_meet_115 (by decide) rfl rfl ?_
            refine v_iconst cx d_M_meet_117 ?_
            refine v_istore (lv' := [(0, .ref (ad 41)), (1, .int (zI a)), (2, .int (zI b)), (3, .int (zI c)), (4, .int (zI what)), (5, .int (zI 0)), (6, .int (zI 1))]) cx d_M_meet_118 (by decide) rfl rfl ?_
            refine v_sb (lv' := [(0, .ref (ad 41)), (4, .int (zI what)), (5, .int (zI 0)), (6, .int (zI 1))]) [0, 4, 5, 6] rfl ?_
            obtain ⟨I120, μ120, h0, h⟩ := h
            have L120 : ∀ (N120 : Nat) (y14 y15 : Int) (σ16 : zS), μ120 y14 y15 σ16 < N120 → I120 y14 y15 σ16 → zR y14 → zR y15 → zV Ω Γ rm_M_meet 7 Q 0 0 zLy ad σ16 120 [(0, .ref (ad 41)), (4, .int (zI what)), (5, .int (zI y14)), (6, .int (zI y15))] [] := by
              intro N120
              induction N120 with
              | zero => intro y14 y15 σ16 hm; exact absurd hm (Nat.not_lt_zero _)
              | succ N120 ih120 =>
                intro y14 y15 σ16 hmm120 hI hy14 hy15
                replace h := h y14 y15 σ16 hI hy14 hy15
                refine v_iload cx 3 d_M_meet_120 rfl ?_
                refine v_aload_n cx 0 d_M_meet_122 rfl rfl ?_
                refine v_callVi0 (st := [.int (zI y15)]) cx (s_M_places  h) yk_M_places lk_M_90 zl_41 rfl rfl rfl (Nat.le_of_ble_eq_true rfl) ⟨Nat.le_of_ble_eq_true rfl, Nat.le_of_ble_eq_true rfl⟩ ⟨rfl, rfl⟩ ⟨(Nat.le_of_ble_eq_true rfl), (Nat.le_of_ble_eq_true rfl)⟩ d_M_meet_123 (fun r18 σ17 hr18 h => ?_)
                refine v_icmp_ge cx 156 d_M_meet_126 (by decide) hy15 hr18 (fun c19 => ?_) (fun c19 => ?_)
                · replace h := h.1 c19
                  refine v_aload_n cx 0 d_M_meet_156 rfl rfl ?_
                  refine gf_M_66 cx d_M_meet_157 ?_
                  refine v_iload cx 2 d_M_meet_160 rfl ?_
                  obtain ⟨hb20, h⟩ := h
                  refine v_iald cx zl_59 (by decide) hb20.1 hb20.2 d_M_meet_162 (fun hl21 => ?_)
                  refine v_ldc cx ct_M_155 d_M_meet_163 ?_
                  refine v_icmp_ne cx 170 d_M_meet_165 (by decide) hl21 ⟨by decide, by decide⟩ (fun c22 => ?_) (fun c22 => ?_)
                  · replace h := h.1 c22
                    refine v_iload cx 1 d_M_meet_170 rfl ?_
                    refine v_if_ne cx 178 d_M_meet_172 (by decide) hwhat (fun c23 => ?_) (fun c23 => ?_)
                    · replace h := h.1 c23
                      refine v_aload_n cx 0 d_M_meet_178 rfl rfl ?_
                      refine gf_M_66 cx d_M_meet_179 ?_
                      refine v_iload cx 2 d_M_meet_182 rfl ?_
                      refine v_iald cx zl_59 (by decide) hb20.1 hb20.2 d_M_meet_184 (fun hl24 => ?_)
                      exact rt _ _ _ _ _ _ (Nat.le_of_ble_eq_true rfl) (Nat.le_of_ble_eq_true rfl) d_M_meet_185 hl24 h
                    · replace h := h.2 c23
                      refine v_iload cx 2 d_M_meet_175 rfl ?_
                      exact rt _ _ _ _ _ _ (Nat.le_of_ble_eq_true rfl) (Nat.le_of_ble_eq_true rfl) d_M_meet_177 hy14 h
                  · replace h := h.2 c22
                    refine v_iconst cx d_M_meet_168 ?_
                    exact rt _ _ _ _ _ _ (Nat.le_of_ble_eq_true rfl) (Nat.le_of_ble_eq_true rfl) d_M_meet_169 ⟨by decide, by decide⟩ h
                · replace h := h.2 c19
                  refine v_aload_n cx 0 d_M_meet_129 rfl rfl ?_
                  refine gf_M_66 cx d_M_meet_130 ?_
                  refine v_iload cx 3 d_M_meet_133 rfl ?_
                  obtain ⟨hb25, h⟩ := h
                  refine v_iald cx zl_59 (by decide) hb25.1 hb25.2 d_M_meet_135 (fun hl26 => ?_)
                  refine v_aload_n cx 0 d_M_meet_136 rfl rfl ?_
                  refine gf_M_66 cx d_M_meet_137 ?_
                  refine v_iload cx 2 d_M_meet_140 rfl ?_
                  obtain ⟨hb27, h⟩ := h
                  refine v_iald cx zl_59 (by decide) hb27.1 hb27.2 d_M_meet_142 (fun hl28 => ?_)
                  refine v_icmp_ge cx 150 d_M_meet_143 (by decide) hl26 hl28 (fun c29 => ?_) (fun c29 => ?_)
                  · replace h := h.1 c29
                    refine v_iinc (lv' := [(0, .ref (ad 41)), (4, .int (zI what)), (5, .int (zI y14)), (6, .int (zI (y15 + 1)))]) cx 3 d_M_meet_150 rfl (by decide) rfl rfl ?_
                    refine v_goto cx 120 d_M_meet_153 (by decide) ?_
                    obtain ⟨hI2, hz31, hm2⟩ := h
                    exact ih120 _ _ _ (Nat.lt_of_lt_of_le hm2 (Nat.le_of_lt_succ hmm120)) hI2 hy14 hz31
                  · replace h := h.2 c29
                    refine v_iload cx 3 d_M_meet_146 rfl ?_
                    refine v_istore (lv' := [(0, .ref (ad 41)), (4, .int (zI what)), (5, .int (zI y15)), (6, .int (zI y15))]) cx d_M_meet_148 (by decide) rfl rfl ?_
                    refine v_iinc (lv' := [(0, .ref (ad 41)), (4, .int (zI what)), (5, .int (zI y15)), (6, .int (zI (y15 + 1)))]) cx 3 d_M_meet_150 rfl (by decide) rfl rfl ?_
                    refine v_goto cx 120 d_M_meet_153 (by decide) ?_
                    obtain ⟨hI2, hz33, hm2⟩ := h
                    exact ih120 _ _ _ (Nat.lt_of_lt_of_le hm2 (Nat.le_of_lt_succ hmm120)) hI2 hy15 hz33
            exact L120 _ _ _ _ (Nat.lt_succ_self _) h0 ⟨by decide, by decide⟩ ⟨by decide, by decide⟩
          · replace h := h.2 c10
            refine v_aload_n cx 0 d_M_meet_85 rfl rfl ?_
            refine gf_M_66 cx d_M_meet_86 ?_
            refine v_iload cx 5 d_M_meet_89 rfl ?_
            refine v_iconst cx d_M_meet_91 ?_
            obtain ⟨hb34, h⟩ := h
            refine v_iast cx zl_59 (by decide) hb34.1 hb34.2 ⟨by decide, by decide⟩ d_M_meet_92 ?_
            refine v_ns (fun σ35 eσ35 => ?_)
            replace h := h σ35 eσ35
            refine v_iinc (lv' := [(0, .ref (ad 41)), (1, .int (zI a)), (2, .int (zI b)), (3, .int (zI c)), (4, .int (zI what)), (5, .int (zI (y8 + 1)))]) cx 5 d_M_meet_93 rfl (by decide) rfl rfl ?_
            refine v_goto cx 78 d_M_meet_96 (by decide) ?_
            obtain ⟨hI2, hz37, hm2⟩ := h
            exact ih78 _ _ (Nat.lt_of_lt_of_le hm2 (Nat.le_of_lt_succ hmm78)) hI2 hz37
      exact L78 _ _ _ (Nat.lt_succ_self _) h0 ⟨by decide, by decide⟩
    · replace h := h.2 c7
      refine v_iconst cx d_M_meet_73 ?_
      exact rt _ _ _ _ _ _ (Nat.le_of_ble_eq_true rfl) (Nat.le_of_ble_eq_true rfl) d_M_meet_74 ⟨by decide, by decide⟩ h
  obtain ⟨J25, hJ25, h⟩ := h
  have G25 : ∀ (σ38 : zS), J25 σ38 → zV Ω Γ rm_M_meet 7 Q 0 0 zLy ad σ38 25 [(0, .ref (ad 41)), (1, .int (zI a)), (2, .int (zI b)), (3, .int (zI c)), (4, .int (zI what))] [.ref (ad 41)] := by
    intro σ38 hJ 
    replace h := hJ25 σ38 hJ 
    refine v_iconst cx d_M_meet_25 ?_
    refine v_goto cx 63 d_M_meet_26 (by decide) ?_
    have hJ2 := h
    exact G63 _ _ hJ2 ⟨by decide, by decide⟩
  refine v_if_eq cx 25 d_M_meet_6 (by decide) (zR_b hr2) (fun c39 => ?_) (fun c39 => ?_)
  · replace h := h.1 c39
    have hJ2 := h
    exact G25 _ hJ2 
  · replace h := h.2 c39
    refine v_aload_n cx 0 d_M_meet_9 rfl rfl ?_
    refine v_iload_n cx 2 d_M_meet_10 rfl rfl ?_
    refine v_callVz0 (st := [.ref (ad 41)]) cx (s_M_isPlace hb h) yk_M_isPlace lk_M_203 zl_41 rfl rfl rfl (Nat.le_of_ble_eq_true rfl) ⟨Nat.le_of_ble_eq_true rfl, Nat.le_of_ble_eq_true rfl⟩ ⟨rfl, rfl⟩ ⟨(Nat.le_of_ble_eq_true rfl), (Nat.le_of_ble_eq_true rfl)⟩ d_M_meet_11 (fun r41 σ40 hr41 h => ?_)
    refine v_if_eq cx 25 d_M_meet_14 (by decide) (zR_b hr41) (fun c42 => ?_) (fun c42 => ?_)
    · replace h := h.1 c42
      have hJ2 := h
      exact G25 _ hJ2 
    · replace h := h.2 c42
      refine v_aload_n cx 0 d_M_meet_17 rfl rfl ?_
      refine v_iload_n cx 3 d_M_meet_18 rfl rfl ?_
      refine v_callVz0 (st := [.ref (ad 41)]) cx (s_M_isPlace hc h) yk_M_isPlace lk_M_203 zl_41 rfl rfl rfl (Nat.le_of_ble_eq_true rfl) ⟨Nat.le_of_ble_eq_true rfl, Nat.le_of_ble_eq_true rfl⟩ ⟨rfl, rfl⟩ ⟨(Nat.le_of_ble_eq_true rfl), (Nat.le_of_ble_eq_true rfl)⟩ d_M_meet_19 (fun r44 σ43 hr44 h => ?_)
      refine v_if_ne cx 29 d_M_meet_22 (by decide) (zR_b hr44) (fun c45 => ?_) (fun c45 => ?_)
      · replace h := h.1 c45
        refine v_iload cx 4 d_M_meet_29 rfl ?_
        refine v_iconst cx d_M_meet_31 ?_
        refine v_iconst cx d_M_meet_32 ?_
        refine v_callSz0 (st := [.ref (ad 41)]) cx (s_M_isIn hwhat ⟨by decide, by decide⟩ ⟨by decide, by decide⟩ h) yk_M_isIn lk_M_94 rfl rfl (Nat.le_of_ble_eq_true rfl) ⟨Nat.le_of_ble_eq_true rfl, Nat.le_of_ble_eq_true rfl⟩ ⟨rfl, rfl⟩ ⟨(Nat.le_of_ble_eq_true rfl), (Nat.le_of_ble_eq_true rfl)⟩ d_M_meet_33 (fun r47 σ46 hr47 h => ?_)
        refine v_if_ne cx 43 d_M_meet_36 (by decide) (zR_b hr47) (fun c48 => ?_) (fun c48 => ?_)
        · replace h := h.1 c48
          refine v_iload_n cx 1 d_M_meet_43 rfl rfl ?_
          refine v_iload_n cx 2 d_M_meet_44 rfl rfl ?_
          obtain ⟨J58, hJ58, h⟩ := h
          have G58 : J58 → zV Ω Γ rm_M_meet 7 Q 0 0 zLy ad σ46 58 [(0, .ref (ad 41)), (1, .int (zI a)), (2, .int (zI b)), (3, .int (zI c)), (4, .int (zI what))] [.ref (ad 41)] := by
            intro hJ
            replace h := hJ58 hJ
            refine v_iconst cx d_M_meet_58 ?_
            refine v_goto cx 63 d_M_meet_59 (by decide) ?_
            have hJ2 := h
            exact G63 _ _ hJ2 ⟨by decide, by decide⟩
          refine v_icmp_eq cx 58 d_M_meet_45 (by decide) ha hb (fun c49 => ?_) (fun c49 => ?_)
          · replace h := h.1 c49
            have hJ2 := h
            exact G58 hJ2 
          · replace h := h.2 c49
            refine v_iload_n cx 2 d_M_meet_48 rfl rfl ?_
            refine v_iload_n cx 3 d_M_meet_49 rfl rfl ?_
            refine v_icmp_eq cx 58 d_M_meet_50 (by decide) hb hc (fun c50 => ?_) (fun c50 => ?_)
            · replace h := h.1 c50
              have hJ2 := h
              exact G58 hJ2 
            · replace h := h.2 c50
              refine v_iload_n cx 1 d_M_meet_53 rfl rfl ?_
              refine v_iload_n cx 3 d_M_meet_54 rfl rfl ?_
              refine v_icmp_ne cx 62 d_M_meet_55 (by decide) ha hc (fun c51 => ?_) (fun c51 => ?_)
              · replace h := h.1 c51
                refine v_iconst cx d_M_meet_62 ?_
                have hJ2 := h
                exact G63 _ _ hJ2 ⟨by decide, by decide⟩
              · replace h := h.2 c51
                have hJ2 := h
                exact G58 hJ2 
        · replace h := h.2 c48
          refine v_iconst cx d_M_meet_39 ?_
          refine v_goto cx 63 d_M_meet_40 (by decide) ?_
          have hJ2 := h
          exact G63 _ _ hJ2 ⟨by decide, by decide⟩
      · replace h := h.2 c45
        have hJ2 := h
        exact G25 _ hJ2 
def q_M_goesRound : Nat → Int → Int → Int → (zS → Prop) → zS → Prop
  | 0, _, _, _, _, _ => False
  | d + 1, last, used, cost, K, σ =>
  zR ((zShl 1 (σ 41 24)) - 1) ∧ ((used ≠ ((zShl 1 (σ 41 24)) - 1) →
      ∃ (I49 : Int → zS → Prop) (μ49 : Int → zS → Nat), (I49 1 σ) ∧ ∀ (y4 : Int) (σ5 : zS), I49 y4 σ5 → zR y4 → 
      ((σ5 41 24) ≤ y4 →
        K σ5) ∧ (y4 < (σ5 41 24) →
        (0 ≤ (6 * last) + y4 ∧ (6 * last) + y4 < 36) ∧ (∀ x10 : Int, x10 = σ5 58 ((6 * last) + y4) → ((zAnd (zShr used y4) 1) ≠ 0 →
            I49 (y4 + 1) σ5 ∧ zR (y4 + 1) ∧ μ49 (y4 + 1) σ5 < μ49 y4 σ5) ∧ ((zAnd (zShr used y4) 1) = 0 →
            (1000000000 ≤ x10 →
              I49 (y4 + 1) σ5 ∧ zR (y4 + 1) ∧ μ49 (y4 + 1) σ5 < μ49 y4 σ5) ∧ (x10 < 1000000000 →
              zR (cost + x10) ∧ (q_M_goesRound d y4 (zOr used (zShl 1 y4)) (cost + x10) (fun σ18 =>
                  I49 (y4 + 1) σ18 ∧ zR (y4 + 1) ∧ μ49 (y4 + 1) σ18 < μ49 y4 σ5) σ5)))))) ∧ (used = ((zShl 1 (σ 41 24)) - 1) →
      (0 ≤ 6 * last ∧ 6 * last < 36) ∧ (∀ x23 : Int, x23 = σ 58 (6 * last) → (1000000000 ≤ x23 →
          K σ) ∧ (x23 < 1000000000 →
          zR (cost + x23) ∧ (q_M_lesser (σ 41 26) (cost + x23) (fun r28 σ27 =>
              ∀ σ29 : zS, σ29 = zU σ27 41 26 r28 → K σ29) σ)))))
abbrev rm_M_goesRound (d : Nat) : Room := { frames := d + 1, cells := 0, slots := 0, locals := 25 + 25 * d }
set_option maxRecDepth 20000 in
set_option maxHeartbeats 4000000 in
theorem s_M_goesRound {Ω : zO} {ad : Nat → Nat} : ∀ (d : Nat) {last : Int} {used : Int} {cost : Int} {K : zS → Prop} {σ : zS}, zR last → zR used → zR cost → q_M_goesRound d last used cost K σ → zMv Ω y_M_goesRound (.code y_M_goesRound c_M_goesRound 6 none) (rm_M_goesRound d) zLy ad [.ref (ad 41), .int (zI last), .int (zI used), .int (zI cost)] σ K := by
  intro d
  induction d with
  | zero => intro last used cost K σ hlast hused hcost h; rw [q_M_goesRound] at h; exact h.elim
  | succ d ih =>
    intro last used cost K σ hlast hused hcost h
    rw [q_M_goesRound] at h
    refine z_ofv (lv := [(0, .ref (ad 41)), (1, .int (zI last)), (2, .int (zI used)), (3, .int (zI cost))]) (by decide) rfl (Nat.le_of_ble_eq_true rfl) ?_
    intro Γ Q cx rt
    refine v_iload_n cx 2 d_M_goesRound_0 rfl rfl ?_
    refine v_iconst cx d_M_goesRound_1 ?_
    refine v_aload_n cx 0 d_M_goesRound_2 rfl rfl ?_
    refine gf_M_343 cx d_M_goesRound_3 (fun hl1 => ?_)
    refine v_ishl cx d_M_goesRound_6 ?_
    refine v_iconst cx d_M_goesRound_7 ?_
    refine v_isub cx d_M_goesRound_8 ?_
    obtain ⟨hr2, h⟩ := h
    refine v_icmp_ne cx 46 d_M_goesRound_9 (by decide) hused hr2 (fun c3 => ?_) (fun c3 => ?_)
    · replace h := h.1 c3
      refine v_iconst cx d_M_goesRound_46 ?_
      refine v_istore (lv' := [(0, .ref (ad 41)), (1, .int (zI last)), (2, .int (zI used)), (3, .int (zI cost)), (4, .int (zI 1))]) cx d_M_goesRound_47 (by decide) rfl rfl ?_
      obtain ⟨I49, μ49, h0, h⟩ := h
      have L49 : ∀ (N49 : Nat) (y4 : Int) (σ5 : zS), μ49 y4 σ5 < N49 → I49 y4 σ5 → zR y4 → zV Ω Γ (rm_M_goesRound (d + 1)) 6 Q 0 0 zLy ad σ5 49 [(0, .ref (ad 41)), (1, .int (zI last)), (2, .int (zI used)), (3, .int (zI cost)), (4, .int (zI y4))] [] := by
        intro N49
        induction N49 with
        | zero => intro y4 σ5 hm; exact absurd hm (Nat.not_lt_zero _)
        | succ N49 ih49 =>
          intro y4 σ5 hmm49 hI hy4
          replace h := h y4 σ5 hI hy4
          refine v_iload cx 4 d_M_goesRound_49 rfl ?_
          refine v_aload_n cx 0 d_M_goesRound_51 rfl rfl ?_
          refine gf_M_343 cx d_M_goesRound_52 (fun hl6 => ?_)
          refine v_icmp_ge cx 110 d_M_goesRound_55 (by decide) hy4 hl6 (fun c7 => ?_) (fun c7 => ?_)
          · replace h := h.1 c7
            exact rt _ _ _ _ _ (Nat.zero_le _) (Nat.zero_le _) d_M_goesRound_110 h
          · replace h := h.2 c7
            refine v_aload_n cx 0 d_M_goesRound_58 rfl rfl ?_
            refine gf_M_63 cx d_M_goesRound_59 ?_
            refine v_bipush cx (by decide) d_M_goesRound_62 ?_
            refine v_iload_n cx 1 d_M_goesRound_64 rfl rfl ?_
            refine v_imul cx d_M_goesRound_65 ?_
            refine v_iload cx 4 d_M_goesRound_66 rfl ?_
            refine v_iadd cx d_M_goesRound_68 ?_
            obtain ⟨hb8, h⟩ := h
            refine v_iald cx zl_58 (by decide) hb8.1 hb8.2 d_M_goesRound_69 (fun hl9 => ?_)
            refine v_nm (fun x10 ex10 => ?_)
            replace h := h x10 ex10
            have hx10 : zR x10 := by rw [ex10]; exact hl9
            refine v_istore (lv' := [(0, .ref (ad 41)), (1, .int (zI last)), (2, .int (zI used)), (3, .int (zI cost)), (4, .int (zI y4)), (5, .int (zI x10))]) cx d_M_goesRound_70 (by decide) rfl rfl ?_
            refine v_iload_n cx 2 d_M_goesRound_72 rfl rfl ?_
            refine v_iload cx 4 d_M_goesRound_73 rfl ?_
            refine v_ishr cx d_M_goesRound_75 ?_
            refine v_iconst cx d_M_goesRound_76 ?_
            refine v_iand cx d_M_goesRound_77 ?_
            refine v_if_ne cx 104 d_M_goesRound_78 (by decide) (zR_and _ _) (fun c11 => ?_) (fun c11 => ?_)
            · replace h := h.1 c11
              refine v_iinc (lv' := [(0, .ref (ad 41)), (1, .int (zI last)), (2, .int (zI used)), (3, .int (zI cost)), (4, .int (zI (y4 + 1))), (5, .int (zI x10))]) cx 4 d_M_goesRound_104 rfl (by decide) rfl rfl ?_
              refine v_goto cx 49 d_M_goesRound_107 (by decide) ?_
              refine v_sb (lv' := [(0, .ref (ad 41)), (1, .int (zI last)), (2, .int (zI used)), (3, .int (zI cost)), (4, .int (zI (y4 + 1)))]) [0, 1, 2, 3, 4] rfl ?_
              obtain ⟨hI2, hz13, hm2⟩ := h
              exact ih49 _ _ (Nat.lt_of_lt_of_le hm2 (Nat.le_of_lt_succ hmm49)) hI2 hz13
            · replace h := h.2 c11
              refine v_iload cx 5 d_M_goesRound_81 rfl ?_
              refine v_ldc cx ct_M_155 d_M_goesRound_83 ?_
              refine v_icmp_ge cx 104 d_M_goesRound_85 (by decide) hx10 ⟨by decide, by decide⟩ (fun c14 => ?_) (fun c14 => ?_)
              · replace h := h.1 c14
                refine v_iinc (lv' := [(0, .ref (ad 41)), (1, .int (zI last)), (2, .int (zI used)), (3, .int (zI cost)), (4, .int (zI (y4 + 1))), (5, .int (zI x10))]) cx 4 d_M_goesRound_104 rfl (by decide) rfl rfl ?_
                refine v_goto cx 49 d_M_goesRound_107 (by decide) ?_
                refine v_sb (lv' := [(0, .ref (ad 41)), (1, .int (zI last)), (2, .int (zI used)), (3, .int (zI cost)), (4, .int (zI (y4 + 1)))]) [0, 1, 2, 3, 4] rfl ?_
                obtain ⟨hI2, hz16, hm2⟩ := h
                exact ih49 _ _ (Nat.lt_of_lt_of_le hm2 (Nat.le_of_lt_succ hmm49)) hI2 hz16
              · replace h := h.2 c14
                refine v_aload_n cx 0 d_M_goesRound_88 rfl rfl ?_
                refine v_iload cx 4 d_M_goesRound_89 rfl ?_
                refine v_iload_n cx 2 d_M_goesRound_91 rfl rfl ?_
                refine v_iconst cx d_M_goesRound_92 ?_
                refine v_iload cx 4 d_M_goesRound_93 rfl ?_
                refine v_ishl cx d_M_goesRound_95 ?_
                refine v_ior cx d_M_goesRound_96 ?_
                refine v_iload_n cx 3 d_M_goesRound_97 rfl rfl ?_
                refine v_iload cx 5 d_M_goesRound_98 rfl ?_
                refine v_iadd cx d_M_goesRound_100 ?_
                obtain ⟨hr17, h⟩ := h
                refine v_callVv0 (st := []) cx (ih hy4 (zR_or _ _) hr17 h) yk_M_goesRound lk_M_349 zl_41 rfl rfl rfl (Nat.le_of_ble_eq_true rfl) ⟨by dsimp only [rm_M_goesRound, rm_M_goesRound]; omega, by dsimp only [rm_M_goesRound, rm_M_goesRound]; omega⟩ ⟨rfl, rfl⟩ ⟨(Nat.zero_le _), (Nat.zero_le _)⟩ d_M_goesRound_101 (fun σ18 h => ?_)
                refine v_iinc (lv' := [(0, .ref (ad 41)), (1, .int (zI last)), (2, .int (zI used)), (3, .int (zI cost)), (4, .int (zI (y4 + 1))), (5, .int (zI x10))]) cx 4 d_M_goesRound_104 rfl (by decide) rfl rfl ?_
                refine v_goto cx 49 d_M_goesRound_107 (by decide) ?_
                refine v_sb (lv' := [(0, .ref (ad 41)), (1, .int (zI last)), (2, .int (zI used)), (3, .int (zI cost)), (4, .int (zI (y4 + 1)))]) [0, 1, 2, 3, 4] rfl ?_
                obtain ⟨hI2, hz20, hm2⟩ := h
                exact ih49 _ _ (Nat.lt_of_lt_of_le hm2 (Nat.le_of_lt_succ hmm49)) hI2 hz20
      exact L49 _ _ _ (Nat.lt_succ_self _) h0 ⟨by decide, by decide⟩
    · replace h := h.2 c3
      refine v_aload_n cx 0 d_M_goesRound_12 rfl rfl ?_
      refine gf_M_63 cx d_M_goesRound_13 ?_
      refine v_bipush cx (by decide) d_M_goesRound_16 ?_
      refine v_iload_n cx 1 d_M_goesRound_18 rfl rfl ?_
      refine v_imul cx d_M_goesRound_19 ?_
      obtain ⟨hb21, h⟩ := h
      refine v_iald cx zl_58 (by decide) hb21.1 hb21.2 d_M_goesRound_20 (fun hl22 => ?_)
      refine v_nm (fun x23 ex23 => ?_)
      replace h := h x23 ex23
      have hx23 : zR x23 := by rw [ex23]; exact hl22
      refine v_istore (lv' := [(0, .ref (ad 41)), (1, .int (zI last)), (2, .int (zI used)), (3, .int (zI cost)), (4, .int (zI x23))]) cx d_M_goesRound_21 (by decide) rfl rfl ?_
      refine v_iload cx 4 d_M_goesRound_23 rfl ?_
      refine v_ldc cx ct_M_155 d_M_goesRound_25 ?_
      refine v_icmp_ge cx 45 d_M_goesRound_27 (by decide) hx23 ⟨by decide, by decide⟩ (fun c24 => ?_) (fun c24 => ?_)
      · replace h := h.1 c24
        exact rt _ _ _ _ _ (Nat.zero_le _) (Nat.zero_le _) d_M_goesRound_45 h
      · replace h := h.2 c24
        refine v_aload_n cx 0 d_M_goesRound_30 rfl rfl ?_
        refine v_aload_n cx 0 d_M_goesRound_31 rfl rfl ?_
        refine gf_M_346 cx d_M_goesRound_32 (fun hl25 => ?_)
        refine v_iload_n cx 3 d_M_goesRound_35 rfl rfl ?_
        refine v_iload cx 4 d_M_goesRound_36 rfl ?_
        refine v_iadd cx d_M_goesRound_38 ?_
        obtain ⟨hr26, h⟩ := h
        refine v_callSi0 (st := [.ref (ad 41)]) cx (s_M_lesser hl25 hr26 h) yk_M_lesser lk_M_184 rfl rfl (Nat.le_of_ble_eq_true rfl) ⟨by dsimp only [rm_M_goesRound, rm_M_lesser]; omega, by dsimp only [rm_M_goesRound, rm_M_lesser]; omega⟩ ⟨rfl, rfl⟩ ⟨(Nat.zero_le _), (Nat.zero_le _)⟩ d_M_goesRound_39 (fun r28 σ27 hr28 h => ?_)
        refine pf_M_346 cx hr28 d_M_goesRound_42 ?_
        refine v_ns (fun σ29 eσ29 => ?_)
        replace h := h σ29 eσ29
        exact rt _ _ _ _ _ (Nat.zero_le _) (Nat.zero_le _) d_M_goesRound_45 h
def q_M_areStops (K : Int → zS → Prop) (σ : zS) : Prop :=
  ∀ σ2 : zS, σ2 = zU σ 41 24 (σ 41 11) → ∀ σ3 : zS, σ3 = zU σ2 41 11 0 → q_M_isIn (σ3 41 24) 2 6 (fun r6 σ5 =>
    (r6 ≠ 0 →
      ∃ (I30 : Int → zS → Prop) (μ30 : Int → zS → Nat), (I30 0 σ5) ∧ ∀ (y8 : Int) (σ9 : zS), I30 y8 σ9 → zR y8 → 
      ((σ9 41 24) ≤ y8 →
        K 1 σ9) ∧ (y8 < (σ9 41 24) →
        (0 ≤ y8 ∧ y8 < 400) ∧ ((0 ≤ y8 ∧ y8 < 6) ∧ (∀ σ15 : zS, σ15 = zU σ9 57 y8 (σ9 49 y8) → q_M_isPlace (σ15 57 y8) (fun r18 σ17 =>
              (r18 ≠ 0 →
                ∃ (I67 : Int → Prop) (μ67 : Int → Nat), (I67 0) ∧ ∀ (y20 : Int), I67 y20 → zR y20 → 
                (y8 ≤ y20 →
                  I30 (y8 + 1) σ17 ∧ zR (y8 + 1) ∧ μ30 (y8 + 1) σ17 < μ30 y8 σ9) ∧ (y20 < y8 →
                  (0 ≤ y20 ∧ y20 < 6) ∧ (((σ17 57 y20) ≠ (σ17 57 y8) →
                      I67 (y20 + 1) ∧ zR (y20 + 1) ∧ μ67 (y20 + 1) < μ67 y20) ∧ ((σ17 57 y20) = (σ17 57 y8) →
                      K 0 σ17)))) ∧ (r18 = 0 →
                K 0 σ17)) σ15)))) ∧ (r6 = 0 →
      K 0 σ5)) σ3
abbrev rm_M_areStops : Room := { frames := 2, cells := 0, slots := 0, locals := 43 }
set_option maxRecDepth 20000 in
set_option maxHeartbeats 4000000 in
theorem s_M_areStops {Ω : zO} {ad : Nat → Nat} {K : Int → zS → Prop} {σ : zS}  (h : q_M_areStops K σ) : zMz Ω y_M_areStops (.code y_M_areStops c_M_areStops 3 (some .boolean)) rm_M_areStops zLy ad [.ref (ad 41)] σ K := by
  refine z_ofz (lv := [(0, .ref (ad 41))]) (by decide) rfl (Nat.le_of_ble_eq_true rfl) ?_
  intro Γ Q cx rt
  unfold q_M_areStops at h
  refine v_aload_n cx 0 d_M_areStops_0 rfl rfl ?_
  refine v_aload_n cx 0 d_M_areStops_1 rfl rfl ?_
  refine gf_M_215 cx d_M_areStops_2 (fun hl1 => ?_)
  refine pf_M_343 cx hl1 d_M_areStops_5 ?_
  refine v_ns (fun σ2 eσ2 => ?_)
  replace h := h σ2 eσ2
  refine v_aload_n cx 0 d_M_areStops_8 rfl rfl ?_
  refine v_iconst cx d_M_areStops_9 ?_
  refine pf_M_215 cx ⟨by decide, by decide⟩ d_M_areStops_10 ?_
  refine v_ns (fun σ3 eσ3 => ?_)
  replace h := h σ3 eσ3
  refine v_aload_n cx 0 d_M_areStops_13 rfl rfl ?_
  refine gf_M_343 cx d_M_areStops_14 (fun hl4 => ?_)
  refine v_iconst cx d_M_areStops_17 ?_
  refine v_bipush cx (by decide) d_M_areStops_18 ?_
  refine v_callSz0 (st := []) cx (s_M_isIn hl4 ⟨by decide, by decide⟩ ⟨by decide, by decide⟩ h) yk_M_isIn lk_M_94 rfl rfl (Nat.le_of_ble_eq_true rfl) ⟨Nat.le_of_ble_eq_true rfl, Nat.le_of_ble_eq_true rfl⟩ ⟨rfl, rfl⟩ ⟨(Nat.le_of_ble_eq_true rfl), (Nat.le_of_ble_eq_true rfl)⟩ d_M_areStops_20 (fun r6 σ5 hr6 h => ?_)
  refine v_if_ne cx 28 d_M_areStops_23 (by decide) (zR_b hr6) (fun c7 => ?_) (fun c7 => ?_)
  · replace h := h.1 c7
    refine v_iconst cx d_M_areStops_28 ?_
    refine v_istore_n (lv' := [(0, .ref (ad 41)), (1, .int (zI 0))]) cx d_M_areStops_29 rfl (by decide) rfl rfl ?_
    obtain ⟨I30, μ30, h0, h⟩ := h
    have L30 : ∀ (N30 : Nat) (y8 : Int) (σ9 : zS), μ30 y8 σ9 < N30 → I30 y8 σ9 → zR y8 → zV Ω Γ rm_M_areStops 3 Q 0 0 zLy ad σ9 30 [(0, .ref (ad 41)), (1, .int (zI y8))] [] := by
      intro N30
      induction N30 with
      | zero => intro y8 σ9 hm; exact absurd hm (Nat.not_lt_zero _)
      | succ N30 ih30 =>
        intro y8 σ9 hmm30 hI hy8
        replace h := h y8 σ9 hI hy8
        refine v_iload_n cx 1 d_M_areStops_30 rfl rfl ?_
        refine v_aload_n cx 0 d_M_areStops_31 rfl rfl ?_
        refine gf_M_343 cx d_M_areStops_32 (fun hl10 => ?_)
        refine v_icmp_ge cx 101 d_M_areStops_35 (by decide) hy8 hl10 (fun c11 => ?_) (fun c11 => ?_)
        · replace h := h.1 c11
          refine v_iconst cx d_M_areStops_101 ?_
          exact rt _ _ _ _ _ _ (Nat.le_of_ble_eq_true rfl) (Nat.le_of_ble_eq_true rfl) d_M_areStops_102 (Or.inr rfl) h
        · replace h := h.2 c11
          refine v_aload_n cx 0 d_M_areStops_38 rfl rfl ?_
          refine gf_M_60 cx d_M_areStops_39 ?_
          refine v_iload_n cx 1 d_M_areStops_42 rfl rfl ?_
          refine v_aload_n cx 0 d_M_areStops_43 rfl rfl ?_
          refine gf_M_31 cx d_M_areStops_44 ?_
          refine v_iload_n cx 1 d_M_areStops_47 rfl rfl ?_
          obtain ⟨hb12, h⟩ := h
          refine v_iald cx zl_49 (by decide) hb12.1 hb12.2 d_M_areStops_48 (fun hl13 => ?_)
          obtain ⟨hb14, h⟩ := h
          refine v_iast cx zl_57 (by decide) hb14.1 hb14.2 hl13 d_M_areStops_49 ?_
          refine v_ns (fun σ15 eσ15 => ?_)
          replace h := h σ15 eσ15
          refine v_aload_n cx 0 d_M_areStops_50 rfl rfl ?_
          refine v_aload_n cx 0 d_M_areStops_51 rfl rfl ?_
          refine gf_M_60 cx d_M_areStops_52 ?_
          refine v_iload_n cx 1 d_M_areStops_55 rfl rfl ?_
          refine v_iald cx zl_57 (by decide) hb14.1 hb14.2 d_M_areStops_56 (fun hl16 => ?_)
          refine v_callVz0 (st := []) cx (s_M_isPlace hl16 h) yk_M_isPlace lk_M_203 zl_41 rfl rfl rfl (Nat.le_of_ble_eq_true rfl) ⟨Nat.le_of_ble_eq_true rfl, Nat.le_of_ble_eq_true rfl⟩ ⟨rfl, rfl⟩ ⟨(Nat.le_of_ble_eq_true rfl), (Nat.le_of_ble_eq_true rfl)⟩ d_M_areStops_57 (fun r18 σ17 hr18 h => ?_)
          refine v_if_ne cx 65 d_M_areStops_60 (by decide) (zR_b hr18) (fun c19 => ?_) (fun c19 => ?_)
          · replace h := h.1 c19
            refine v_iconst cx d_M_areStops_65 ?_
            refine v_istore_n (lv' := [(0, .ref (ad 41)), (1, .int (zI y8)), (2, .int (zI 0))]) cx d_M_areStops_66 rfl (by decide) rfl rfl ?_
            obtain ⟨I67, μ67, h0, h⟩ := h
            have L67 : ∀ (N67 : Nat) (y20 : Int), μ67 y20 < N67 → I67 y20 → zR y20 → zV Ω Γ rm_M_areStops 3 Q 0 0 zLy ad σ17 67 [(0, .ref (ad 41)), (1, .int (zI y8)), (2, .int (zI y20))] [] := by
              intro N67
              induction N67 with
              | zero => intro y20 hm; exact absurd hm (Nat.not_lt_zero _)
              | succ N67 ih67 =>
                intro y20 hmm67 hI hy20
                replace h := h y20 hI hy20
                refine v_iload_n cx 2 d_M_areStops_67 rfl rfl ?_
                refine v_iload_n cx 1 d_M_areStops_68 rfl rfl ?_
                refine v_icmp_ge cx 95 d_M_areStops_69 (by decide) hy20 hy8 (fun c21 => ?_) (fun c21 => ?_)
                · replace h := h.1 c21
                  refine v_iinc (lv' := [(0, .ref (ad 41)), (1, .int (zI (y8 + 1))), (2, .int (zI y20))]) cx 1 d_M_areStops_95 rfl (by decide) rfl rfl ?_
                  refine v_goto cx 30 d_M_areStops_98 (by decide) ?_
                  refine v_sb (lv' := [(0, .ref (ad 41)), (1, .int (zI (y8 + 1)))]) [0, 1] rfl ?_
                  obtain ⟨hI2, hz23, hm2⟩ := h
                  exact ih30 _ _ (Nat.lt_of_lt_of_le hm2 (Nat.le_of_lt_succ hmm30)) hI2 hz23
                · replace h := h.2 c21
                  refine v_aload_n cx 0 d_M_areStops_72 rfl rfl ?_
                  refine gf_M_60 cx d_M_areStops_73 ?_
                  refine v_iload_n cx 2 d_M_areStops_76 rfl rfl ?_
                  obtain ⟨hb24, h⟩ := h
                  refine v_iald cx zl_57 (by decide) hb24.1 hb24.2 d_M_areStops_77 (fun hl25 => ?_)
                  refine v_aload_n cx 0 d_M_areStops_78 rfl rfl ?_
                  refine gf_M_60 cx d_M_areStops_79 ?_
                  refine v_iload_n cx 1 d_M_areStops_82 rfl rfl ?_
                  refine v_iald cx zl_57 (by decide) hb14.1 hb14.2 d_M_areStops_83 (fun hl26 => ?_)
                  refine v_icmp_ne cx 89 d_M_areStops_84 (by decide) hl25 hl26 (fun c27 => ?_) (fun c27 => ?_)
                  · replace h := h.1 c27
                    refine v_iinc (lv' := [(0, .ref (ad 41)), (1, .int (zI y8)), (2, .int (zI (y20 + 1)))]) cx 2 d_M_areStops_89 rfl (by decide) rfl rfl ?_
                    refine v_goto cx 67 d_M_areStops_92 (by decide) ?_
                    obtain ⟨hI2, hz29, hm2⟩ := h
                    exact ih67 _ (Nat.lt_of_lt_of_le hm2 (Nat.le_of_lt_succ hmm67)) hI2 hz29
                  · replace h := h.2 c27
                    refine v_iconst cx d_M_areStops_87 ?_
                    exact rt _ _ _ _ _ _ (Nat.le_of_ble_eq_true rfl) (Nat.le_of_ble_eq_true rfl) d_M_areStops_88 (Or.inl rfl) h
            exact L67 _ _ (Nat.lt_succ_self _) h0 ⟨by decide, by decide⟩
          · replace h := h.2 c19
            refine v_iconst cx d_M_areStops_63 ?_
            exact rt _ _ _ _ _ _ (Nat.le_of_ble_eq_true rfl) (Nat.le_of_ble_eq_true rfl) d_M_areStops_64 (Or.inl rfl) h
    exact L30 _ _ _ (Nat.lt_succ_self _) h0 ⟨by decide, by decide⟩
  · replace h := h.2 c7
    refine v_iconst cx d_M_areStops_26 ?_
    exact rt _ _ _ _ _ _ (Nat.le_of_ble_eq_true rfl) (Nat.le_of_ble_eq_true rfl) d_M_areStops_27 (Or.inl rfl) h
def q_M_round (K : Int → zS → Prop) (σ : zS) : Prop :=
  q_M_areStops (fun r2 σ1 =>
    ∃ J13 : Int → Prop, (∀ (w3 : Int), J13 w3 → zR w3 → 
      ∀ σ4 : zS, σ4 = zU σ1 41 0 w3 → ((σ4 41 0) ≤ 0 →
        ∃ (I27 : Int → zS → Prop) (μ27 : Int → zS → Nat), (I27 0 σ4) ∧ ∀ (y7 : Int) (σ8 : zS), I27 y7 σ8 → zR y7 → 
        ((σ8 41 24) ≤ y7 →
          ∀ σ11 : zS, σ11 = zU σ8 41 26 1000000000 → q_M_goesRound 7 0 1 0 (fun σ12 =>
            ((σ12 41 26) ≠ 1000000000 →
              K (σ12 41 26) σ12) ∧ ((σ12 41 26) = 1000000000 →
              K (-1) σ12)) σ11) ∧ (y7 < (σ8 41 24) →
          (0 ≤ y7 ∧ y7 < 6) ∧ (q_M_goesFrom (σ8 57 y7) (fun σ18 =>
              ∃ (I47 : Int → zS → Prop) (μ47 : Int → zS → Nat), (I47 0 σ18) ∧ ∀ (y19 : Int) (σ20 : zS), I47 y19 σ20 → zR y19 → 
              ((σ20 41 24) ≤ y19 →
                I27 (y7 + 1) σ20 ∧ zR (y7 + 1) ∧ μ27 (y7 + 1) σ20 < μ27 y7 σ8) ∧ (y19 < (σ20 41 24) →
                (0 ≤ y19 ∧ y19 < 6) ∧ (q_M_costAt (σ20 57 y19) (fun r28 σ27 =>
                    (0 ≤ (6 * y7) + y19 ∧ (6 * y7) + y19 < 36) ∧ (∀ σ30 : zS, σ30 = zU σ27 58 ((6 * y7) + y19) r28 → I47 (y19 + 1) σ30 ∧ zR (y19 + 1) ∧ μ47 (y19 + 1) σ30 < μ47 y19 σ20)) σ20))) σ8))) ∧ (0 < (σ4 41 0) →
        K 0 σ4)) ∧
    ((r2 = 0 →
        J13 1) ∧ (r2 ≠ 0 →
        J13 0))) σ
abbrev rm_M_round : Room := { frames := 9, cells := 0, slots := 0, locals := 225 }
set_option maxRecDepth 20000 in
set_option maxHeartbeats 4000000 in
theorem s_M_round {Ω : zO} {ad : Nat → Nat} {K : Int → zS → Prop} {σ : zS}  (h : q_M_round K σ) : zMi Ω y_M_round (.code y_M_round c_M_round 3 (some .int)) rm_M_round zLy ad [.ref (ad 41)] σ K := by
  refine z_ofi (lv := [(0, .ref (ad 41))]) (by decide) rfl (Nat.le_of_ble_eq_true rfl) ?_
  intro Γ Q cx rt
  unfold q_M_round at h
  refine v_aload_n cx 0 d_M_round_0 rfl rfl ?_
  refine v_aload_n cx 0 d_M_round_1 rfl rfl ?_
  refine v_callVz0 (st := [.ref (ad 41)]) cx (s_M_areStops  h) yk_M_areStops lk_M_352 zl_41 rfl rfl rfl (Nat.le_of_ble_eq_true rfl) ⟨Nat.le_of_ble_eq_true rfl, Nat.le_of_ble_eq_true rfl⟩ ⟨rfl, rfl⟩ ⟨(Nat.le_of_ble_eq_true rfl), (Nat.le_of_ble_eq_true rfl)⟩ d_M_round_2 (fun r2 σ1 hr2 h => ?_)
  obtain ⟨J13, hJ13, h⟩ := h
  have G13 : ∀ (w3 : Int), J13 w3 → zR w3 → zV Ω Γ rm_M_round 3 Q 0 0 zLy ad σ1 13 [(0, .ref (ad 41))] [.int (zI w3), .ref (ad 41)] := by
    intro w3 hJ hw3
    replace h := hJ13 w3 hJ hw3
    refine pf_M_87 cx hw3 d_M_round_13 ?_
    refine v_ns (fun σ4 eσ4 => ?_)
    replace h := h σ4 eσ4
    refine v_aload_n cx 0 d_M_round_16 rfl rfl ?_
    refine gf_M_87 cx d_M_round_17 (fun hl5 => ?_)
    refine v_if_le cx 25 d_M_round_20 (by decide) hl5 (fun c6 => ?_) (fun c6 => ?_)
    · replace h := h.1 c6
      refine v_iconst cx d_M_round_25 ?_
      refine v_istore_n (lv' := [(0, .ref (ad 41)), (1, .int (zI 0))]) cx d_M_round_26 rfl (by decide) rfl rfl ?_
      obtain ⟨I27, μ27, h0, h⟩ := h
      have L27 : ∀ (N27 : Nat) (y7 : Int) (σ8 : zS), μ27 y7 σ8 < N27 → I27 y7 σ8 → zR y7 → zV Ω Γ rm_M_round 3 Q 0 0 zLy ad σ8 27 [(0, .ref (ad 41)), (1, .int (zI y7))] [] := by
        intro N27
        induction N27 with
        | zero => intro y7 σ8 hm; exact absurd hm (Nat.not_lt_zero _)
        | succ N27 ih27 =>
          intro y7 σ8 hmm27 hI hy7
          replace h := h y7 σ8 hI hy7
          refine v_iload_n cx 1 d_M_round_27 rfl rfl ?_
          refine v_aload_n cx 0 d_M_round_28 rfl rfl ?_
          refine gf_M_343 cx d_M_round_29 (fun hl9 => ?_)
          refine v_icmp_ge cx 88 d_M_round_32 (by decide) hy7 hl9 (fun c10 => ?_) (fun c10 => ?_)
          · replace h := h.1 c10
            refine v_aload_n cx 0 d_M_round_88 rfl rfl ?_
            refine v_ldc cx ct_M_155 d_M_round_89 ?_
            refine pf_M_346 cx ⟨by decide, by decide⟩ d_M_round_91 ?_
            refine v_ns (fun σ11 eσ11 => ?_)
            replace h := h σ11 eσ11
            refine v_aload_n cx 0 d_M_round_94 rfl rfl ?_
            refine v_iconst cx d_M_round_95 ?_
            refine v_iconst cx d_M_round_96 ?_
            refine v_iconst cx d_M_round_97 ?_
            refine v_callVv0 (st := []) cx (s_M_goesRound 7 ⟨by decide, by decide⟩ ⟨by decide, by decide⟩ ⟨by decide, by decide⟩ h) yk_M_goesRound lk_M_349 zl_41 rfl rfl rfl (Nat.le_of_ble_eq_true rfl) ⟨Nat.le_of_ble_eq_true rfl, Nat.le_of_ble_eq_true rfl⟩ ⟨rfl, rfl⟩ ⟨(Nat.le_of_ble_eq_true rfl), (Nat.le_of_ble_eq_true rfl)⟩ d_M_round_98 (fun σ12 h => ?_)
            refine v_aload_n cx 0 d_M_round_101 rfl rfl ?_
            refine gf_M_346 cx d_M_round_102 (fun hl13 => ?_)
            refine v_ldc cx ct_M_155 d_M_round_105 ?_
            refine v_icmp_ne cx 114 d_M_round_107 (by decide) hl13 ⟨by decide, by decide⟩ (fun c14 => ?_) (fun c14 => ?_)
            · replace h := h.1 c14
              refine v_aload_n cx 0 d_M_round_114 rfl rfl ?_
              refine gf_M_346 cx d_M_round_115 (fun hl15 => ?_)
              exact rt _ _ _ _ _ _ (Nat.le_of_ble_eq_true rfl) (Nat.le_of_ble_eq_true rfl) d_M_round_118 hl15 h
            · replace h := h.2 c14
              refine v_iconst cx d_M_round_110 ?_
              refine v_goto cx 118 d_M_round_111 (by decide) ?_
              exact rt _ _ _ _ _ _ (Nat.le_of_ble_eq_true rfl) (Nat.le_of_ble_eq_true rfl) d_M_round_118 ⟨by decide, by decide⟩ h
          · replace h := h.2 c10
            refine v_aload_n cx 0 d_M_round_35 rfl rfl ?_
            refine v_aload_n cx 0 d_M_round_36 rfl rfl ?_
            refine gf_M_60 cx d_M_round_37 ?_
            refine v_iload_n cx 1 d_M_round_40 rfl rfl ?_
            obtain ⟨hb16, h⟩ := h
            refine v_iald cx zl_57 (by decide) hb16.1 hb16.2 d_M_round_41 (fun hl17 => ?_)
            refine v_callVv0 (st := []) cx (s_M_goesFrom hl17 h) yk_M_goesFrom lk_M_187 zl_41 rfl rfl rfl (Nat.le_of_ble_eq_true rfl) ⟨Nat.le_of_ble_eq_true rfl, Nat.le_of_ble_eq_true rfl⟩ ⟨rfl, rfl⟩ ⟨(Nat.le_of_ble_eq_true rfl), (Nat.le_of_ble_eq_true rfl)⟩ d_M_round_42 (fun σ18 h => ?_)
            refine v_iconst cx d_M_round_45 ?_
            refine v_istore_n (lv' := [(0, .ref (ad 41)), (1, .int (zI y7)), (2, .int (zI 0))]) cx d_M_round_46 rfl (by decide) rfl rfl ?_
            obtain ⟨I47, μ47, h0, h⟩ := h
            have L47 : ∀ (N47 : Nat) (y19 : Int) (σ20 : zS), μ47 y19 σ20 < N47 → I47 y19 σ20 → zR y19 → zV Ω Γ rm_M_round 3 Q 0 0 zLy ad σ20 47 [(0, .ref (ad 41)), (1, .int (zI y7)), (2, .int (zI y19))] [] := by
              intro N47
              induction N47 with
              | zero => intro y19 σ20 hm; exact absurd hm (Nat.not_lt_zero _)
              | succ N47 ih47 =>
                intro y19 σ20 hmm47 hI hy19
                replace h := h y19 σ20 hI hy19
                refine v_iload_n cx 2 d_M_round_47 rfl rfl ?_
                refine v_aload_n cx 0 d_M_round_48 rfl rfl ?_
                refine gf_M_343 cx d_M_round_49 (fun hl21 => ?_)
                refine v_icmp_ge cx 82 d_M_round_52 (by decide) hy19 hl21 (fun c22 => ?_) (fun c22 => ?_)
                · replace h := h.1 c22
                  refine v_iinc (lv' := [(0, .ref (ad 41)), (1, .int (zI (y7 + 1))), (2, .int (zI y19))]) cx 1 d_M_round_82 rfl (by decide) rfl rfl ?_
                  refine v_goto cx 27 d_M_round_85 (by decide) ?_
                  refine v_sb (lv' := [(0, .ref (ad 41)), (1, .int (zI (y7 + 1)))]) [0, 1] rfl ?_
                  obtain ⟨hI2, hz24, hm2⟩ := h
                  exact ih27 _ _ (Nat.lt_of_lt_of_le hm2 (Nat.le_of_lt_succ hmm27)) hI2 hz24
                · replace h := h.2 c22
                  refine v_aload_n cx 0 d_M_round_55 rfl rfl ?_
                  refine gf_M_63 cx d_M_round_56 ?_
                  refine v_bipush cx (by decide) d_M_round_59 ?_
                  refine v_iload_n cx 1 d_M_round_61 rfl rfl ?_
                  refine v_imul cx d_M_round_62 ?_
                  refine v_iload_n cx 2 d_M_round_63 rfl rfl ?_
                  refine v_iadd cx d_M_round_64 ?_
                  refine v_aload_n cx 0 d_M_round_65 rfl rfl ?_
                  refine v_aload_n cx 0 d_M_round_66 rfl rfl ?_
                  refine gf_M_60 cx d_M_round_67 ?_
                  refine v_iload_n cx 2 d_M_round_70 rfl rfl ?_
                  obtain ⟨hb25, h⟩ := h
                  refine v_iald cx zl_57 (by decide) hb25.1 hb25.2 d_M_round_71 (fun hl26 => ?_)
                  refine v_callVi0 (st := [.int (zI ((6 * y7) + y19)), .ref (ad 58)]) cx (s_M_costAt hl26 h) yk_M_costAt lk_M_191 zl_41 rfl rfl rfl (Nat.le_of_ble_eq_true rfl) ⟨Nat.le_of_ble_eq_true rfl, Nat.le_of_ble_eq_true rfl⟩ ⟨rfl, rfl⟩ ⟨(Nat.le_of_ble_eq_true rfl), (Nat.le_of_ble_eq_true rfl)⟩ d_M_round_72 (fun r28 σ27 hr28 h => ?_)
                  obtain ⟨hb29, h⟩ := h
                  refine v_iast cx zl_58 (by decide) hb29.1 hb29.2 hr28 d_M_round_75 ?_
                  refine v_ns (fun σ30 eσ30 => ?_)
                  replace h := h σ30 eσ30
                  refine v_iinc (lv' := [(0, .ref (ad 41)), (1, .int (zI y7)), (2, .int (zI (y19 + 1)))]) cx 2 d_M_round_76 rfl (by decide) rfl rfl ?_
                  refine v_goto cx 47 d_M_round_79 (by decide) ?_
                  obtain ⟨hI2, hz32, hm2⟩ := h
                  exact ih47 _ _ (Nat.lt_of_lt_of_le hm2 (Nat.le_of_lt_succ hmm47)) hI2 hz32
            exact L47 _ _ _ (Nat.lt_succ_self _) h0 ⟨by decide, by decide⟩
      exact L27 _ _ _ (Nat.lt_succ_self _) h0 ⟨by decide, by decide⟩
    · replace h := h.2 c6
      refine v_iconst cx d_M_round_23 ?_
      exact rt _ _ _ _ _ _ (Nat.le_of_ble_eq_true rfl) (Nat.le_of_ble_eq_true rfl) d_M_round_24 ⟨by decide, by decide⟩ h
  refine v_if_eq cx 12 d_M_round_5 (by decide) (zR_b hr2) (fun c33 => ?_) (fun c33 => ?_)
  · replace h := h.1 c33
    refine v_iconst cx d_M_round_12 ?_
    have hJ2 := h
    exact G13 _ hJ2 ⟨by decide, by decide⟩
  · replace h := h.2 c33
    refine v_iconst cx d_M_round_8 ?_
    refine v_goto cx 13 d_M_round_9 (by decide) ?_
    have hJ2 := h
    exact G13 _ hJ2 ⟨by decide, by decide⟩
def q_M_laysPath (r : Int) (K : zS → Prop) (σ : zS) : Prop :=
  q_M_many r (fun r2 σ1 =>
    ∀ σ3 : zS, σ3 = zU σ1 41 20 r2 → ∃ (I11 : Int → zS → Prop) (μ11 : Int → zS → Nat), (I11 0 σ3) ∧ ∀ (y4 : Int) (σ5 : zS), I11 y4 σ5 → zR y4 → 
    ((σ5 41 20) ≤ y4 →
      K σ5) ∧ (y4 < (σ5 41 20) →
      q_M_placeAt r y4 (fun r9 σ8 =>
        (0 ≤ y4 ∧ y4 < 700) ∧ (∀ σ11 : zS, σ11 = zU σ8 54 y4 r9 → I11 (y4 + 1) σ11 ∧ zR (y4 + 1) ∧ μ11 (y4 + 1) σ11 < μ11 y4 σ5)) σ5)) σ
abbrev rm_M_laysPath : Room := { frames := 1, cells := 0, slots := 0, locals := 22 }
set_option maxRecDepth 20000 in
set_option maxHeartbeats 4000000 in
theorem s_M_laysPath {Ω : zO} {ad : Nat → Nat} {r : Int} {K : zS → Prop} {σ : zS} (hr : zR r) (h : q_M_laysPath r K σ) : zMv Ω y_M_laysPath (.code y_M_laysPath c_M_laysPath 3 none) rm_M_laysPath zLy ad [.ref (ad 41), .int (zI r)] σ K := by
  refine z_ofv (lv := [(0, .ref (ad 41)), (1, .int (zI r))]) (by decide) rfl (Nat.le_of_ble_eq_true rfl) ?_
  intro Γ Q cx rt
  unfold q_M_laysPath at h
  refine v_aload_n cx 0 d_M_laysPath_0 rfl rfl ?_
  refine v_aload_n cx 0 d_M_laysPath_1 rfl rfl ?_
  refine v_iload_n cx 1 d_M_laysPath_2 rfl rfl ?_
  refine v_callVi0 (st := [.ref (ad 41)]) cx (s_M_many hr h) yk_M_many lk_M_129 zl_41 rfl rfl rfl (Nat.le_of_ble_eq_true rfl) ⟨Nat.le_of_ble_eq_true rfl, Nat.le_of_ble_eq_true rfl⟩ ⟨rfl, rfl⟩ ⟨(Nat.le_of_ble_eq_true rfl), (Nat.le_of_ble_eq_true rfl)⟩ d_M_laysPath_3 (fun r2 σ1 hr2 h => ?_)
  refine pf_M_172 cx hr2 d_M_laysPath_6 ?_
  refine v_ns (fun σ3 eσ3 => ?_)
  replace h := h σ3 eσ3
  refine v_iconst cx d_M_laysPath_9 ?_
  refine v_istore_n (lv' := [(0, .ref (ad 41)), (1, .int (zI r)), (2, .int (zI 0))]) cx d_M_laysPath_10 rfl (by decide) rfl rfl ?_
  obtain ⟨I11, μ11, h0, h⟩ := h
  have L11 : ∀ (N11 : Nat) (y4 : Int) (σ5 : zS), μ11 y4 σ5 < N11 → I11 y4 σ5 → zR y4 → zV Ω Γ rm_M_laysPath 3 Q 0 0 zLy ad σ5 11 [(0, .ref (ad 41)), (1, .int (zI r)), (2, .int (zI y4))] [] := by
    intro N11
    induction N11 with
    | zero => intro y4 σ5 hm; exact absurd hm (Nat.not_lt_zero _)
    | succ N11 ih11 =>
      intro y4 σ5 hmm11 hI hy4
      replace h := h y4 σ5 hI hy4
      refine v_iload_n cx 2 d_M_laysPath_11 rfl rfl ?_
      refine v_aload_n cx 0 d_M_laysPath_12 rfl rfl ?_
      refine gf_M_172 cx d_M_laysPath_13 (fun hl6 => ?_)
      refine v_icmp_ge cx 37 d_M_laysPath_16 (by decide) hy4 hl6 (fun c7 => ?_) (fun c7 => ?_)
      · replace h := h.1 c7
        exact rt _ _ _ _ _ (Nat.le_of_ble_eq_true rfl) (Nat.le_of_ble_eq_true rfl) d_M_laysPath_37 h
      · replace h := h.2 c7
        refine v_aload_n cx 0 d_M_laysPath_19 rfl rfl ?_
        refine gf_M_50 cx d_M_laysPath_20 ?_
        refine v_iload_n cx 2 d_M_laysPath_23 rfl rfl ?_
        refine v_aload_n cx 0 d_M_laysPath_24 rfl rfl ?_
        refine v_iload_n cx 1 d_M_laysPath_25 rfl rfl ?_
        refine v_iload_n cx 2 d_M_laysPath_26 rfl rfl ?_
        refine v_callVi0 (st := [.int (zI y4), .ref (ad 54)]) cx (s_M_placeAt hr hy4 h) yk_M_placeAt lk_M_212 zl_41 rfl rfl rfl (Nat.le_of_ble_eq_true rfl) ⟨Nat.le_of_ble_eq_true rfl, Nat.le_of_ble_eq_true rfl⟩ ⟨rfl, rfl⟩ ⟨(Nat.le_of_ble_eq_true rfl), (Nat.le_of_ble_eq_true rfl)⟩ d_M_laysPath_27 (fun r9 σ8 hr9 h => ?_)
        obtain ⟨hb10, h⟩ := h
        refine v_iast cx zl_54 (by decide) hb10.1 hb10.2 hr9 d_M_laysPath_30 ?_
        refine v_ns (fun σ11 eσ11 => ?_)
        replace h := h σ11 eσ11
        refine v_iinc (lv' := [(0, .ref (ad 41)), (1, .int (zI r)), (2, .int (zI (y4 + 1)))]) cx 2 d_M_laysPath_31 rfl (by decide) rfl rfl ?_
        refine v_goto cx 11 d_M_laysPath_34 (by decide) ?_
        obtain ⟨hI2, hz13, hm2⟩ := h
        exact ih11 _ _ (Nat.lt_of_lt_of_le hm2 (Nat.le_of_lt_succ hmm11)) hI2 hz13
  exact L11 _ _ _ (Nat.lt_succ_self _) h0 ⟨by decide, by decide⟩
def q_M_hairpins (r : Int) (K : Int → zS → Prop) (σ : zS) : Prop :=
  ∃ (I4 : Int → Int → zS → Prop) (μ4 : Int → Int → zS → Nat), (I4 0 1 σ) ∧ ∀ (y1 y2 : Int) (σ3 : zS), I4 y1 y2 σ3 → zR y1 → zR y2 → 
  q_M_many r (fun r5 σ4 =>
    zR (r5 - 1) ∧ (((r5 - 1) ≤ y2 →
        K y1 σ4) ∧ (y2 < (r5 - 1) →
        zR (y2 - 1) ∧ (q_M_stepHeading r (y2 - 1) (fun r10 σ9 =>
            q_M_stepHeading r y2 (fun r12 σ11 =>
              q_M_eighths r10 r12 (fun r14 σ13 =>
                (r14 ≤ (σ13 42 3) →
                  ∀ x17 : Int, x17 = y1 + 0 → I4 x17 (y2 + 1) σ13 ∧ zR x17 ∧ zR (y2 + 1) ∧ μ4 x17 (y2 + 1) σ13 < μ4 y1 y2 σ3) ∧ ((σ13 42 3) < r14 →
                  ∀ x21 : Int, x21 = y1 + 1 → I4 x21 (y2 + 1) σ13 ∧ zR x21 ∧ zR (y2 + 1) ∧ μ4 x21 (y2 + 1) σ13 < μ4 y1 y2 σ3)) σ11) σ9) σ4)))) σ3
abbrev rm_M_hairpins : Room := { frames := 3, cells := 0, slots := 0, locals := 65 }
set_option maxRecDepth 20000 in
set_option maxHeartbeats 4000000 in
theorem s_M_hairpins {Ω : zO} {ad : Nat → Nat} {r : Int} {K : Int → zS → Prop} {σ : zS} (hr : zR r) (h : q_M_hairpins r K σ) : zMi Ω y_M_hairpins (.code y_M_hairpins c_M_hairpins 4 (some .int)) rm_M_hairpins zLy ad [.ref (ad 41), .int (zI r)] σ K := by
  refine z_ofi (lv := [(0, .ref (ad 41)), (1, .int (zI r))]) (by decide) rfl (Nat.le_of_ble_eq_true rfl) ?_
  intro Γ Q cx rt
  unfold q_M_hairpins at h
  refine v_iconst cx d_M_hairpins_0 ?_
  refine v_istore_n (lv' := [(0, .ref (ad 41)), (1, .int (zI r)), (2, .int (zI 0))]) cx d_M_hairpins_1 rfl (by decide) rfl rfl ?_
  refine v_iconst cx d_M_hairpins_2 ?_
  refine v_istore_n (lv' := [(0, .ref (ad 41)), (1, .int (zI r)), (2, .int (zI 0)), (3, .int (zI 1))]) cx d_M_hairpins_3 rfl (by decide) rfl rfl ?_
  obtain ⟨I4, μ4, h0, h⟩ := h
  have L4 : ∀ (N4 : Nat) (y1 y2 : Int) (σ3 : zS), μ4 y1 y2 σ3 < N4 → I4 y1 y2 σ3 → zR y1 → zR y2 → zV Ω Γ rm_M_hairpins 4 Q 0 0 zLy ad σ3 4 [(0, .ref (ad 41)), (1, .int (zI r)), (2, .int (zI y1)), (3, .int (zI y2))] [] := by
    intro N4
    induction N4 with
    | zero => intro y1 y2 σ3 hm; exact absurd hm (Nat.not_lt_zero _)
    | succ N4 ih4 =>
      intro y1 y2 σ3 hmm4 hI hy1 hy2
      replace h := h y1 y2 σ3 hI hy1 hy2
      refine v_iload_n cx 3 d_M_hairpins_4 rfl rfl ?_
      refine v_aload_n cx 0 d_M_hairpins_5 rfl rfl ?_
      refine v_iload_n cx 1 d_M_hairpins_6 rfl rfl ?_
      refine v_callVi0 (st := [.int (zI y2)]) cx (s_M_many hr h) yk_M_many lk_M_129 zl_41 rfl rfl rfl (Nat.le_of_ble_eq_true rfl) ⟨Nat.le_of_ble_eq_true rfl, Nat.le_of_ble_eq_true rfl⟩ ⟨rfl, rfl⟩ ⟨(Nat.le_of_ble_eq_true rfl), (Nat.le_of_ble_eq_true rfl)⟩ d_M_hairpins_7 (fun r5 σ4 hr5 h => ?_)
      refine v_iconst cx d_M_hairpins_10 ?_
      refine v_isub cx d_M_hairpins_11 ?_
      obtain ⟨hr6, h⟩ := h
      refine v_icmp_ge cx 55 d_M_hairpins_12 (by decide) hy2 hr6 (fun c7 => ?_) (fun c7 => ?_)
      · replace h := h.1 c7
        refine v_iload_n cx 2 d_M_hairpins_55 rfl rfl ?_
        exact rt _ _ _ _ _ _ (Nat.le_of_ble_eq_true rfl) (Nat.le_of_ble_eq_true rfl) d_M_hairpins_56 hy1 h
      · replace h := h.2 c7
        refine v_iload_n cx 2 d_M_hairpins_15 rfl rfl ?_
        refine v_aload_n cx 0 d_M_hairpins_16 rfl rfl ?_
        refine v_iload_n cx 1 d_M_hairpins_17 rfl rfl ?_
        refine v_iload_n cx 3 d_M_hairpins_18 rfl rfl ?_
        refine v_iconst cx d_M_hairpins_19 ?_
        refine v_isub cx d_M_hairpins_20 ?_
        obtain ⟨hr8, h⟩ := h
        refine v_callVi0 (st := [.int (zI y1)]) cx (s_M_stepHeading hr hr8 h) yk_M_stepHeading lk_M_308 zl_41 rfl rfl rfl (Nat.le_of_ble_eq_true rfl) ⟨Nat.le_of_ble_eq_true rfl, Nat.le_of_ble_eq_true rfl⟩ ⟨rfl, rfl⟩ ⟨(Nat.le_of_ble_eq_true rfl), (Nat.le_of_ble_eq_true rfl)⟩ d_M_hairpins_21 (fun r10 σ9 hr10 h => ?_)
        refine v_aload_n cx 0 d_M_hairpins_24 rfl rfl ?_
        refine v_iload_n cx 1 d_M_hairpins_25 rfl rfl ?_
        refine v_iload_n cx 3 d_M_hairpins_26 rfl rfl ?_
        refine v_callVi0 (st := [.int (zI r10), .int (zI y1)]) cx (s_M_stepHeading hr hy2 h) yk_M_stepHeading lk_M_308 zl_41 rfl rfl rfl (Nat.le_of_ble_eq_true rfl) ⟨Nat.le_of_ble_eq_true rfl, Nat.le_of_ble_eq_true rfl⟩ ⟨rfl, rfl⟩ ⟨(Nat.le_of_ble_eq_true rfl), (Nat.le_of_ble_eq_true rfl)⟩ d_M_hairpins_27 (fun r12 σ11 hr12 h => ?_)
        refine v_callSi0 (st := [.int (zI y1)]) cx (s_M_eighths hr10 hr12 h) yk_M_eighths lk_M_123 rfl rfl (Nat.le_of_ble_eq_true rfl) ⟨Nat.le_of_ble_eq_true rfl, Nat.le_of_ble_eq_true rfl⟩ ⟨rfl, rfl⟩ ⟨(Nat.le_of_ble_eq_true rfl), (Nat.le_of_ble_eq_true rfl)⟩ d_M_hairpins_30 (fun r14 σ13 hr14 h => ?_)
        refine v_aload_n cx 0 d_M_hairpins_33 rfl rfl ?_
        refine gf_M_7 cx d_M_hairpins_34 ?_
        refine v_iconst cx d_M_hairpins_37 ?_
        refine v_iald cx zl_42 (by decide) (by decide) (by decide) d_M_hairpins_38 (fun hl15 => ?_)
        refine v_icmp_le cx 46 d_M_hairpins_39 (by decide) hr14 hl15 (fun c16 => ?_) (fun c16 => ?_)
        · replace h := h.1 c16
          refine v_iconst cx d_M_hairpins_46 ?_
          refine v_iadd cx d_M_hairpins_47 ?_
          refine v_nm (fun x17 ex17 => ?_)
          replace h := h x17 ex17
          refine v_istore_n (lv' := [(0, .ref (ad 41)), (1, .int (zI r)), (2, .int (zI x17)), (3, .int (zI y2))]) cx d_M_hairpins_48 rfl (by decide) rfl rfl ?_
          refine v_iinc (lv' := [(0, .ref (ad 41)), (1, .int (zI r)), (2, .int (zI x17)), (3, .int (zI (y2 + 1)))]) cx 3 d_M_hairpins_49 rfl (by decide) rfl rfl ?_
          refine v_goto cx 4 d_M_hairpins_52 (by decide) ?_
          obtain ⟨hI2, hz19, hz20, hm2⟩ := h
          exact ih4 _ _ _ (Nat.lt_of_lt_of_le hm2 (Nat.le_of_lt_succ hmm4)) hI2 hz19 hz20
        · replace h := h.2 c16
          refine v_iconst cx d_M_hairpins_42 ?_
          refine v_goto cx 47 d_M_hairpins_43 (by decide) ?_
          refine v_iadd cx d_M_hairpins_47 ?_
          refine v_nm (fun x21 ex21 => ?_)
          replace h := h x21 ex21
          refine v_istore_n (lv' := [(0, .ref (ad 41)), (1, .int (zI r)), (2, .int (zI x21)), (3, .int (zI y2))]) cx d_M_hairpins_48 rfl (by decide) rfl rfl ?_
          refine v_iinc (lv' := [(0, .ref (ad 41)), (1, .int (zI r)), (2, .int (zI x21)), (3, .int (zI (y2 + 1)))]) cx 3 d_M_hairpins_49 rfl (by decide) rfl rfl ?_
          refine v_goto cx 4 d_M_hairpins_52 (by decide) ?_
          obtain ⟨hI2, hz23, hz24, hm2⟩ := h
          exact ih4 _ _ _ (Nat.lt_of_lt_of_le hm2 (Nat.le_of_lt_succ hmm4)) hI2 hz23 hz24
  exact L4 _ _ _ _ (Nat.lt_succ_self _) h0 ⟨by decide, by decide⟩ ⟨by decide, by decide⟩
def q_M_brokenStep (r : Int) (K : Int → zS → Prop) (σ : zS) : Prop :=
  ∃ (I2 : Int → zS → Prop) (μ2 : Int → zS → Nat), (I2 0 σ) ∧ ∀ (y1 : Int) (σ2 : zS), I2 y1 σ2 → zR y1 → 
  q_M_many r (fun r4 σ3 =>
    zR (r4 - 1) ∧ (((r4 - 1) ≤ y1 →
        K (-1) σ3) ∧ (y1 < (r4 - 1) →
        q_M_placeAt r y1 (fun r8 σ7 =>
          q_M_stepHeading r y1 (fun r10 σ9 =>
            q_M_canStep r8 r10 (fun r12 σ11 =>
              (r12 ≠ 0 →
                I2 (y1 + 1) σ11 ∧ zR (y1 + 1) ∧ μ2 (y1 + 1) σ11 < μ2 y1 σ2) ∧ (r12 = 0 →
                K y1 σ11)) σ9) σ7) σ3))) σ2
abbrev rm_M_brokenStep : Room := { frames := 4, cells := 0, slots := 0, locals := 91 }
set_option maxRecDepth 20000 in
set_option maxHeartbeats 4000000 in
theorem s_M_brokenStep {Ω : zO} {ad : Nat → Nat} {r : Int} {K : Int → zS → Prop} {σ : zS} (hr : zR r) (h : q_M_brokenStep r K σ) : zMi Ω y_M_brokenStep (.code y_M_brokenStep c_M_brokenStep 3 (some .int)) rm_M_brokenStep zLy ad [.ref (ad 41), .int (zI r)] σ K := by
  refine z_ofi (lv := [(0, .ref (ad 41)), (1, .int (zI r))]) (by decide) rfl (Nat.le_of_ble_eq_true rfl) ?_
  intro Γ Q cx rt
  unfold q_M_brokenStep at h
  refine v_iconst cx d_M_brokenStep_0 ?_
  refine v_istore_n (lv' := [(0, .ref (ad 41)), (1, .int (zI r)), (2, .int (zI 0))]) cx d_M_brokenStep_1 rfl (by decide) rfl rfl ?_
  obtain ⟨I2, μ2, h0, h⟩ := h
  have L2 : ∀ (N2 : Nat) (y1 : Int) (σ2 : zS), μ2 y1 σ2 < N2 → I2 y1 σ2 → zR y1 → zV Ω Γ rm_M_brokenStep 3 Q 0 0 zLy ad σ2 2 [(0, .ref (ad 41)), (1, .int (zI r)), (2, .int (zI y1))] [] := by
    intro N2
    induction N2 with
    | zero => intro y1 σ2 hm; exact absurd hm (Nat.not_lt_zero _)
    | succ N2 ih2 =>
      intro y1 σ2 hmm2 hI hy1
      replace h := h y1 σ2 hI hy1
      refine v_iload_n cx 2 d_M_brokenStep_2 rfl rfl ?_
      refine v_aload_n cx 0 d_M_brokenStep_3 rfl rfl ?_
      refine v_iload_n cx 1 d_M_brokenStep_4 rfl rfl ?_
      refine v_callVi0 (st := [.int (zI y1)]) cx (s_M_many hr h) yk_M_many lk_M_129 zl_41 rfl rfl rfl (Nat.le_of_ble_eq_true rfl) ⟨Nat.le_of_ble_eq_true rfl, Nat.le_of_ble_eq_true rfl⟩ ⟨rfl, rfl⟩ ⟨(Nat.le_of_ble_eq_true rfl), (Nat.le_of_ble_eq_true rfl)⟩ d_M_brokenStep_5 (fun r4 σ3 hr4 h => ?_)
      refine v_iconst cx d_M_brokenStep_8 ?_
      refine v_isub cx d_M_brokenStep_9 ?_
      obtain ⟨hr5, h⟩ := h
      refine v_icmp_ge cx 40 d_M_brokenStep_10 (by decide) hy1 hr5 (fun c6 => ?_) (fun c6 => ?_)
      · replace h := h.1 c6
        refine v_iconst cx d_M_brokenStep_40 ?_
        exact rt _ _ _ _ _ _ (Nat.le_of_ble_eq_true rfl) (Nat.le_of_ble_eq_true rfl) d_M_brokenStep_41 ⟨by decide, by decide⟩ h
      · replace h := h.2 c6
        refine v_aload_n cx 0 d_M_brokenStep_13 rfl rfl ?_
        refine v_aload_n cx 0 d_M_brokenStep_14 rfl rfl ?_
        refine v_iload_n cx 1 d_M_brokenStep_15 rfl rfl ?_
        refine v_iload_n cx 2 d_M_brokenStep_16 rfl rfl ?_
        refine v_callVi0 (st := [.ref (ad 41)]) cx (s_M_placeAt hr hy1 h) yk_M_placeAt lk_M_212 zl_41 rfl rfl rfl (Nat.le_of_ble_eq_true rfl) ⟨Nat.le_of_ble_eq_true rfl, Nat.le_of_ble_eq_true rfl⟩ ⟨rfl, rfl⟩ ⟨(Nat.le_of_ble_eq_true rfl), (Nat.le_of_ble_eq_true rfl)⟩ d_M_brokenStep_17 (fun r8 σ7 hr8 h => ?_)
        refine v_aload_n cx 0 d_M_brokenStep_20 rfl rfl ?_
        refine v_iload_n cx 1 d_M_brokenStep_21 rfl rfl ?_
        refine v_iload_n cx 2 d_M_brokenStep_22 rfl rfl ?_
        refine v_callVi0 (st := [.int (zI r8), .ref (ad 41)]) cx (s_M_stepHeading hr hy1 h) yk_M_stepHeading lk_M_308 zl_41 rfl rfl rfl (Nat.le_of_ble_eq_true rfl) ⟨Nat.le_of_ble_eq_true rfl, Nat.le_of_ble_eq_true rfl⟩ ⟨rfl, rfl⟩ ⟨(Nat.le_of_ble_eq_true rfl), (Nat.le_of_ble_eq_true rfl)⟩ d_M_brokenStep_23 (fun r10 σ9 hr10 h => ?_)
        refine v_callVz0 (st := []) cx (s_M_canStep hr8 hr10 h) yk_M_canStep lk_M_149 zl_41 rfl rfl rfl (Nat.le_of_ble_eq_true rfl) ⟨Nat.le_of_ble_eq_true rfl, Nat.le_of_ble_eq_true rfl⟩ ⟨rfl, rfl⟩ ⟨(Nat.le_of_ble_eq_true rfl), (Nat.le_of_ble_eq_true rfl)⟩ d_M_brokenStep_26 (fun r12 σ11 hr12 h => ?_)
        refine v_if_ne cx 34 d_M_brokenStep_29 (by decide) (zR_b hr12) (fun c13 => ?_) (fun c13 => ?_)
        · replace h := h.1 c13
          refine v_iinc (lv' := [(0, .ref (ad 41)), (1, .int (zI r)), (2, .int (zI (y1 + 1)))]) cx 2 d_M_brokenStep_34 rfl (by decide) rfl rfl ?_
          refine v_goto cx 2 d_M_brokenStep_37 (by decide) ?_
          obtain ⟨hI2, hz15, hm2⟩ := h
          exact ih2 _ _ (Nat.lt_of_lt_of_le hm2 (Nat.le_of_lt_succ hmm2)) hI2 hz15
        · replace h := h.2 c13
          refine v_iload_n cx 2 d_M_brokenStep_32 rfl rfl ?_
          exact rt _ _ _ _ _ _ (Nat.le_of_ble_eq_true rfl) (Nat.le_of_ble_eq_true rfl) d_M_brokenStep_33 hy1 h
  exact L2 _ _ _ (Nat.lt_succ_self _) h0 ⟨by decide, by decide⟩
def q_M_brokenBend (r : Int) (K : Int → zS → Prop) (σ : zS) : Prop :=
  ∃ (I2 : Int → zS → Prop) (μ2 : Int → zS → Nat), (I2 1 σ) ∧ ∀ (y1 : Int) (σ2 : zS), I2 y1 σ2 → zR y1 → 
  q_M_many r (fun r4 σ3 =>
    zR (r4 - 1) ∧ (((r4 - 1) ≤ y1 →
        K (-1) σ3) ∧ (y1 < (r4 - 1) →
        q_M_placeAt r y1 (fun r8 σ7 =>
          zR (y1 - 1) ∧ (q_M_stepHeading r (y1 - 1) (fun r11 σ10 =>
              q_M_stepHeading r y1 (fun r13 σ12 =>
                q_M_canBend r8 r11 r13 (fun r15 σ14 =>
                  (r15 ≠ 0 →
                    I2 (y1 + 1) σ14 ∧ zR (y1 + 1) ∧ μ2 (y1 + 1) σ14 < μ2 y1 σ2) ∧ (r15 = 0 →
                    K y1 σ14)) σ12) σ10) σ7)) σ3))) σ2
abbrev rm_M_brokenBend : Room := { frames := 4, cells := 0, slots := 0, locals := 92 }
set_option maxRecDepth 20000 in
set_option maxHeartbeats 4000000 in
theorem s_M_brokenBend {Ω : zO} {ad : Nat → Nat} {r : Int} {K : Int → zS → Prop} {σ : zS} (hr : zR r) (h : q_M_brokenBend r K σ) : zMi Ω y_M_brokenBend (.code y_M_brokenBend c_M_brokenBend 3 (some .int)) rm_M_brokenBend zLy ad [.ref (ad 41), .int (zI r)] σ K := by
  refine z_ofi (lv := [(0, .ref (ad 41)), (1, .int (zI r))]) (by decide) rfl (Nat.le_of_ble_eq_true rfl) ?_
  intro Γ Q cx rt
  unfold q_M_brokenBend at h
  refine v_iconst cx d_M_brokenBend_0 ?_
  refine v_istore_n (lv' := [(0, .ref (ad 41)), (1, .int (zI r)), (2, .int (zI 1))]) cx d_M_brokenBend_1 rfl (by decide) rfl rfl ?_
  obtain ⟨I2, μ2, h0, h⟩ := h
  have L2 : ∀ (N2 : Nat) (y1 : Int) (σ2 : zS), μ2 y1 σ2 < N2 → I2 y1 σ2 → zR y1 → zV Ω Γ rm_M_brokenBend 3 Q 0 0 zLy ad σ2 2 [(0, .ref (ad 41)), (1, .int (zI r)), (2, .int (zI y1))] [] := by
    intro N2
    induction N2 with
    | zero => intro y1 σ2 hm; exact absurd hm (Nat.not_lt_zero _)
    | succ N2 ih2 =>
      intro y1 σ2 hmm2 hI hy1
      replace h := h y1 σ2 hI hy1
      refine v_iload_n cx 2 d_M_brokenBend_2 rfl rfl ?_
      refine v_aload_n cx 0 d_M_brokenBend_3 rfl rfl ?_
      refine v_iload_n cx 1 d_M_brokenBend_4 rfl rfl ?_
      refine v_callVi0 (st := [.int (zI y1)]) cx (s_M_many hr h) yk_M_many lk_M_129 zl_41 rfl rfl rfl (Nat.le_of_ble_eq_true rfl) ⟨Nat.le_of_ble_eq_true rfl, Nat.le_of_ble_eq_true rfl⟩ ⟨rfl, rfl⟩ ⟨(Nat.le_of_ble_eq_true rfl), (Nat.le_of_ble_eq_true rfl)⟩ d_M_brokenBend_5 (fun r4 σ3 hr4 h => ?_)
      refine v_iconst cx d_M_brokenBend_8 ?_
      refine v_isub cx d_M_brokenBend_9 ?_
      obtain ⟨hr5, h⟩ := h
      refine v_icmp_ge cx 48 d_M_brokenBend_10 (by decide) hy1 hr5 (fun c6 => ?_) (fun c6 => ?_)
      · replace h := h.1 c6
        refine v_iconst cx d_M_brokenBend_48 ?_
        exact rt _ _ _ _ _ _ (Nat.le_of_ble_eq_true rfl) (Nat.le_of_ble_eq_true rfl) d_M_brokenBend_49 ⟨by decide, by decide⟩ h
      · replace h := h.2 c6
        refine v_aload_n cx 0 d_M_brokenBend_13 rfl rfl ?_
        refine v_aload_n cx 0 d_M_brokenBend_14 rfl rfl ?_
        refine v_iload_n cx 1 d_M_brokenBend_15 rfl rfl ?_
        refine v_iload_n cx 2 d_M_brokenBend_16 rfl rfl ?_
        refine v_callVi0 (st := [.ref (ad 41)]) cx (s_M_placeAt hr hy1 h) yk_M_placeAt lk_M_212 zl_41 rfl rfl rfl (Nat.le_of_ble_eq_true rfl) ⟨Nat.le_of_ble_eq_true rfl, Nat.le_of_ble_eq_true rfl⟩ ⟨rfl, rfl⟩ ⟨(Nat.le_of_ble_eq_true rfl), (Nat.le_of_ble_eq_true rfl)⟩ d_M_brokenBend_17 (fun r8 σ7 hr8 h => ?_)
        refine v_aload_n cx 0 d_M_brokenBend_20 rfl rfl ?_
        refine v_iload_n cx 1 d_M_brokenBend_21 rfl rfl ?_
        refine v_iload_n cx 2 d_M_brokenBend_22 rfl rfl ?_
        refine v_iconst cx d_M_brokenBend_23 ?_
        refine v_isub cx d_M_brokenBend_24 ?_
        obtain ⟨hr9, h⟩ := h
        refine v_callVi0 (st := [.int (zI r8), .ref (ad 41)]) cx (s_M_stepHeading hr hr9 h) yk_M_stepHeading lk_M_308 zl_41 rfl rfl rfl (Nat.le_of_ble_eq_true rfl) ⟨Nat.le_of_ble_eq_true rfl, Nat.le_of_ble_eq_true rfl⟩ ⟨rfl, rfl⟩ ⟨(Nat.le_of_ble_eq_true rfl), (Nat.le_of_ble_eq_true rfl)⟩ d_M_brokenBend_25 (fun r11 σ10 hr11 h => ?_)
        refine v_aload_n cx 0 d_M_brokenBend_28 rfl rfl ?_
        refine v_iload_n cx 1 d_M_brokenBend_29 rfl rfl ?_
        refine v_iload_n cx 2 d_M_brokenBend_30 rfl rfl ?_
        refine v_callVi0 (st := [.int (zI r11), .int (zI r8), .ref (ad 41)]) cx (s_M_stepHeading hr hy1 h) yk_M_stepHeading lk_M_308 zl_41 rfl rfl rfl (Nat.le_of_ble_eq_true rfl) ⟨Nat.le_of_ble_eq_true rfl, Nat.le_of_ble_eq_true rfl⟩ ⟨rfl, rfl⟩ ⟨(Nat.le_of_ble_eq_true rfl), (Nat.le_of_ble_eq_true rfl)⟩ d_M_brokenBend_31 (fun r13 σ12 hr13 h => ?_)
        refine v_callVz0 (st := []) cx (s_M_canBend hr8 hr11 hr13 h) yk_M_canBend lk_M_152 zl_41 rfl rfl rfl (Nat.le_of_ble_eq_true rfl) ⟨Nat.le_of_ble_eq_true rfl, Nat.le_of_ble_eq_true rfl⟩ ⟨rfl, rfl⟩ ⟨(Nat.le_of_ble_eq_true rfl), (Nat.le_of_ble_eq_true rfl)⟩ d_M_brokenBend_34 (fun r15 σ14 hr15 h => ?_)
        refine v_if_ne cx 42 d_M_brokenBend_37 (by decide) (zR_b hr15) (fun c16 => ?_) (fun c16 => ?_)
        · replace h := h.1 c16
          refine v_iinc (lv' := [(0, .ref (ad 41)), (1, .int (zI r)), (2, .int (zI (y1 + 1)))]) cx 2 d_M_brokenBend_42 rfl (by decide) rfl rfl ?_
          refine v_goto cx 2 d_M_brokenBend_45 (by decide) ?_
          obtain ⟨hI2, hz18, hm2⟩ := h
          exact ih2 _ _ (Nat.lt_of_lt_of_le hm2 (Nat.le_of_lt_succ hmm2)) hI2 hz18
        · replace h := h.2 c16
          refine v_iload_n cx 2 d_M_brokenBend_40 rfl rfl ?_
          exact rt _ _ _ _ _ _ (Nat.le_of_ble_eq_true rfl) (Nat.le_of_ble_eq_true rfl) d_M_brokenBend_41 hy1 h
  exact L2 _ _ _ (Nat.lt_succ_self _) h0 ⟨by decide, by decide⟩
def q_M_levelAt (r : Int) (k_ : Int) (K : Int → zS → Prop) (σ : zS) : Prop :=
  q_M_placeAt r k_ (fun r2 σ1 =>
    (0 ≤ 13 + r2 ∧ 13 + r2 < 499) ∧ (q_M_offsetAt r k_ (fun r6 σ5 =>
        zR ((σ1 42 (13 + r2)) + r6) ∧ (K ((σ1 42 (13 + r2)) + r6) σ5)) σ1)) σ
abbrev rm_M_levelAt : Room := { frames := 1, cells := 0, slots := 0, locals := 22 }
set_option maxRecDepth 20000 in
set_option maxHeartbeats 4000000 in
theorem s_M_levelAt {Ω : zO} {ad : Nat → Nat} {r : Int} {k_ : Int} {K : Int → zS → Prop} {σ : zS} (hr : zR r) (hk_ : zR k_) (h : q_M_levelAt r k_ K σ) : zMi Ω y_M_levelAt (.code y_M_levelAt c_M_levelAt 3 (some .int)) rm_M_levelAt zLy ad [.ref (ad 41), .int (zI r), .int (zI k_)] σ K := by
  refine z_ofi (lv := [(0, .ref (ad 41)), (1, .int (zI r)), (2, .int (zI k_))]) (by decide) rfl (Nat.le_of_ble_eq_true rfl) ?_
  intro Γ Q cx rt
  unfold q_M_levelAt at h
  refine v_aload_n cx 0 d_M_levelAt_0 rfl rfl ?_
  refine gf_M_7 cx d_M_levelAt_1 ?_
  refine v_bipush cx (by decide) d_M_levelAt_4 ?_
  refine v_aload_n cx 0 d_M_levelAt_6 rfl rfl ?_
  refine v_iload_n cx 1 d_M_levelAt_7 rfl rfl ?_
  refine v_iload_n cx 2 d_M_levelAt_8 rfl rfl ?_
  refine v_callVi0 (st := [.int (zI 13), .ref (ad 42)]) cx (s_M_placeAt hr hk_ h) yk_M_placeAt lk_M_212 zl_41 rfl rfl rfl (Nat.le_of_ble_eq_true rfl) ⟨Nat.le_of_ble_eq_true rfl, Nat.le_of_ble_eq_true rfl⟩ ⟨rfl, rfl⟩ ⟨(Nat.le_of_ble_eq_true rfl), (Nat.le_of_ble_eq_true rfl)⟩ d_M_levelAt_9 (fun r2 σ1 hr2 h => ?_)
  refine v_iadd cx d_M_levelAt_12 ?_
  obtain ⟨hb3, h⟩ := h
  refine v_iald cx zl_42 (by decide) hb3.1 hb3.2 d_M_levelAt_13 (fun hl4 => ?_)
  refine v_aload_n cx 0 d_M_levelAt_14 rfl rfl ?_
  refine v_iload_n cx 1 d_M_levelAt_15 rfl rfl ?_
  refine v_iload_n cx 2 d_M_levelAt_16 rfl rfl ?_
  refine v_callVi0 (st := [.int (zI (σ1 42 (13 + r2)))]) cx (s_M_offsetAt hr hk_ h) yk_M_offsetAt lk_M_362 zl_41 rfl rfl rfl (Nat.le_of_ble_eq_true rfl) ⟨Nat.le_of_ble_eq_true rfl, Nat.le_of_ble_eq_true rfl⟩ ⟨rfl, rfl⟩ ⟨(Nat.le_of_ble_eq_true rfl), (Nat.le_of_ble_eq_true rfl)⟩ d_M_levelAt_17 (fun r6 σ5 hr6 h => ?_)
  refine v_iadd cx d_M_levelAt_20 ?_
  obtain ⟨hr7, h⟩ := h
  exact rt _ _ _ _ _ _ (Nat.le_of_ble_eq_true rfl) (Nat.le_of_ble_eq_true rfl) d_M_levelAt_21 hr7 h
def q_M_levels (r : Int) (k_ : Int) (K : Int → zS → Prop) (σ : zS) : Prop :=
  q_M_levelAt r k_ (fun r2 σ1 =>
    zR (k_ + 1) ∧ (q_M_levelAt r (k_ + 1) (fun r5 σ4 =>
        q_M_apart r2 r5 (fun r7 σ6 =>
          K r7 σ6) σ4) σ1)) σ
abbrev rm_M_levels : Room := { frames := 2, cells := 0, slots := 0, locals := 44 }
set_option maxRecDepth 20000 in
set_option maxHeartbeats 4000000 in
theorem s_M_levels {Ω : zO} {ad : Nat → Nat} {r : Int} {k_ : Int} {K : Int → zS → Prop} {σ : zS} (hr : zR r) (hk_ : zR k_) (h : q_M_levels r k_ K σ) : zMi Ω y_M_levels (.code y_M_levels c_M_levels 3 (some .int)) rm_M_levels zLy ad [.ref (ad 41), .int (zI r), .int (zI k_)] σ K := by
  refine z_ofi (lv := [(0, .ref (ad 41)), (1, .int (zI r)), (2, .int (zI k_))]) (by decide) rfl (Nat.le_of_ble_eq_true rfl) ?_
  intro Γ Q cx rt
  unfold q_M_levels at h
  refine v_aload_n cx 0 d_M_levels_0 rfl rfl ?_
  refine v_iload_n cx 1 d_M_levels_1 rfl rfl ?_
  refine v_iload_n cx 2 d_M_levels_2 rfl rfl ?_
  refine v_callVi0 (st := []) cx (s_M_levelAt hr hk_ h) yk_M_levelAt lk_M_356 zl_41 rfl rfl rfl (Nat.le_of_ble_eq_true rfl) ⟨Nat.le_of_ble_eq_true rfl, Nat.le_of_ble_eq_true rfl⟩ ⟨rfl, rfl⟩ ⟨(Nat.le_of_ble_eq_true rfl), (Nat.le_of_ble_eq_true rfl)⟩ d_M_levels_3 (fun r2 σ1 hr2 h => ?_)
  refine v_aload_n cx 0 d_M_levels_6 rfl rfl ?_
  refine v_iload_n cx 1 d_M_levels_7 rfl rfl ?_
  refine v_iload_n cx 2 d_M_levels_8 rfl rfl ?_
  refine v_iconst cx d_M_levels_9 ?_
  refine v_iadd cx d_M_levels_10 ?_
  obtain ⟨hr3, h⟩ := h
  refine v_callVi0 (st := [.int (zI r2)]) cx (s_M_levelAt hr hr3 h) yk_M_levelAt lk_M_356 zl_41 rfl rfl rfl (Nat.le_of_ble_eq_true rfl) ⟨Nat.le_of_ble_eq_true rfl, Nat.le_of_ble_eq_true rfl⟩ ⟨rfl, rfl⟩ ⟨(Nat.le_of_ble_eq_true rfl), (Nat.le_of_ble_eq_true rfl)⟩ d_M_levels_11 (fun r5 σ4 hr5 h => ?_)
  refine v_callSi0 (st := []) cx (s_M_apart hr2 hr5 h) yk_M_apart lk_M_98 rfl rfl (Nat.le_of_ble_eq_true rfl) ⟨Nat.le_of_ble_eq_true rfl, Nat.le_of_ble_eq_true rfl⟩ ⟨rfl, rfl⟩ ⟨(Nat.le_of_ble_eq_true rfl), (Nat.le_of_ble_eq_true rfl)⟩ d_M_levels_14 (fun r7 σ6 hr7 h => ?_)
  exact rt _ _ _ _ _ _ (Nat.le_of_ble_eq_true rfl) (Nat.le_of_ble_eq_true rfl) d_M_levels_17 hr7 h
def q_M_steepest (r : Int) (K : Int → zS → Prop) (σ : zS) : Prop :=
  ∃ (I4 : Int → Int → zS → Prop) (μ4 : Int → Int → zS → Nat), (I4 0 1 σ) ∧ ∀ (y1 y2 : Int) (σ3 : zS), I4 y1 y2 σ3 → zR y1 → zR y2 → 
  q_M_many r (fun r5 σ4 =>
    zR (r5 - 1) ∧ (((r5 - 1) ≤ y2 →
        K y1 σ4) ∧ (y2 < (r5 - 1) →
        q_M_levels r y2 (fun r9 σ8 =>
          q_M_stepHeading r y1 (fun r11 σ10 =>
            q_M_longOf r11 (fun r13 σ12 =>
              q_M_levels r y1 (fun r15 σ14 =>
                q_M_stepHeading r y2 (fun r17 σ16 =>
                  q_M_longOf r17 (fun r19 σ18 =>
                    zR (r9 * r13) ∧ (zR (r15 * r19) ∧ (((r9 * r13) ≤ (r15 * r19) →
                          I4 y1 (y2 + 1) σ18 ∧ zR (y2 + 1) ∧ μ4 y1 (y2 + 1) σ18 < μ4 y1 y2 σ3) ∧ ((r15 * r19) < (r9 * r13) →
                          I4 y2 (y2 + 1) σ18 ∧ zR (y2 + 1) ∧ μ4 y2 (y2 + 1) σ18 < μ4 y1 y2 σ3)))) σ16) σ14) σ12) σ10) σ8) σ4))) σ3
abbrev rm_M_steepest : Room := { frames := 3, cells := 0, slots := 0, locals := 66 }
set_option maxRecDepth 20000 in
set_option maxHeartbeats 4000000 in
theorem s_M_steepest {Ω : zO} {ad : Nat → Nat} {r : Int} {K : Int → zS → Prop} {σ : zS} (hr : zR r) (h : q_M_steepest r K σ) : zMi Ω y_M_steepest (.code y_M_steepest c_M_steepest 4 (some .int)) rm_M_steepest zLy ad [.ref (ad 41), .int (zI r)] σ K := by
  refine z_ofi (lv := [(0, .ref (ad 41)), (1, .int (zI r))]) (by decide) rfl (Nat.le_of_ble_eq_true rfl) ?_
  intro Γ Q cx rt
  unfold q_M_steepest at h
  refine v_iconst cx d_M_steepest_0 ?_
  refine v_istore_n (lv' := [(0, .ref (ad 41)), (1, .int (zI r)), (2, .int (zI 0))]) cx d_M_steepest_1 rfl (by decide) rfl rfl ?_
  refine v_iconst cx d_M_steepest_2 ?_
  refine v_istore_n (lv' := [(0, .ref (ad 41)), (1, .int (zI r)), (2, .int (zI 0)), (3, .int (zI 1))]) cx d_M_steepest_3 rfl (by decide) rfl rfl ?_
  obtain ⟨I4, μ4, h0, h⟩ := h
  have L4 : ∀ (N4 : Nat) (y1 y2 : Int) (σ3 : zS), μ4 y1 y2 σ3 < N4 → I4 y1 y2 σ3 → zR y1 → zR y2 → zV Ω Γ rm_M_steepest 4 Q 0 0 zLy ad σ3 4 [(0, .ref (ad 41)), (1, .int (zI r)), (2, .int (zI y1)), (3, .int (zI y2))] [] := by
    intro N4
    induction N4 with
    | zero => intro y1 y2 σ3 hm; exact absurd hm (Nat.not_lt_zero _)
    | succ N4 ih4 =>
      intro y1 y2 σ3 hmm4 hI hy1 hy2
      replace h := h y1 y2 σ3 hI hy1 hy2
      refine v_iload_n cx 3 d_M_steepest_4 rfl rfl ?_
      refine v_aload_n cx 0 d_M_steepest_5 rfl rfl ?_
      refine v_iload_n cx 1 d_M_steepest_6 rfl rfl ?_
      refine v_callVi0 (st := [.int (zI y2)]) cx (s_M_many hr h) yk_M_many lk_M_129 zl_41 rfl rfl rfl (Nat.le_of_ble_eq_true rfl) ⟨Nat.le_of_ble_eq_true rfl, Nat.le_of_ble_eq_true rfl⟩ ⟨rfl, rfl⟩ ⟨(Nat.le_of_ble_eq_true rfl), (Nat.le_of_ble_eq_true rfl)⟩ d_M_steepest_7 (fun r5 σ4 hr5 h => ?_)
      refine v_iconst cx d_M_steepest_10 ?_
      refine v_isub cx d_M_steepest_11 ?_
      obtain ⟨hr6, h⟩ := h
      refine v_icmp_ge cx 58 d_M_steepest_12 (by decide) hy2 hr6 (fun c7 => ?_) (fun c7 => ?_)
      · replace h := h.1 c7
        refine v_iload_n cx 2 d_M_steepest_58 rfl rfl ?_
        exact rt _ _ _ _ _ _ (Nat.le_of_ble_eq_true rfl) (Nat.le_of_ble_eq_true rfl) d_M_steepest_59 hy1 h
      · replace h := h.2 c7
        refine v_aload_n cx 0 d_M_steepest_15 rfl rfl ?_
        refine v_iload_n cx 1 d_M_steepest_16 rfl rfl ?_
        refine v_iload_n cx 3 d_M_steepest_17 rfl rfl ?_
        refine v_callVi0 (st := []) cx (s_M_levels hr hy2 h) yk_M_levels lk_M_359 zl_41 rfl rfl rfl (Nat.le_of_ble_eq_true rfl) ⟨Nat.le_of_ble_eq_true rfl, Nat.le_of_ble_eq_true rfl⟩ ⟨rfl, rfl⟩ ⟨(Nat.le_of_ble_eq_true rfl), (Nat.le_of_ble_eq_true rfl)⟩ d_M_steepest_18 (fun r9 σ8 hr9 h => ?_)
        refine v_aload_n cx 0 d_M_steepest_21 rfl rfl ?_
        refine v_iload_n cx 1 d_M_steepest_22 rfl rfl ?_
        refine v_iload_n cx 2 d_M_steepest_23 rfl rfl ?_
        refine v_callVi0 (st := [.int (zI r9)]) cx (s_M_stepHeading hr hy1 h) yk_M_stepHeading lk_M_308 zl_41 rfl rfl rfl (Nat.le_of_ble_eq_true rfl) ⟨Nat.le_of_ble_eq_true rfl, Nat.le_of_ble_eq_true rfl⟩ ⟨rfl, rfl⟩ ⟨(Nat.le_of_ble_eq_true rfl), (Nat.le_of_ble_eq_true rfl)⟩ d_M_steepest_24 (fun r11 σ10 hr11 h => ?_)
        refine v_callSi0 (st := [.int (zI r9)]) cx (s_M_longOf hr11 h) yk_M_longOf lk_M_108 rfl rfl (Nat.le_of_ble_eq_true rfl) ⟨Nat.le_of_ble_eq_true rfl, Nat.le_of_ble_eq_true rfl⟩ ⟨rfl, rfl⟩ ⟨(Nat.le_of_ble_eq_true rfl), (Nat.le_of_ble_eq_true rfl)⟩ d_M_steepest_27 (fun r13 σ12 hr13 h => ?_)
        refine v_imul cx d_M_steepest_30 ?_
        refine v_aload_n cx 0 d_M_steepest_31 rfl rfl ?_
        refine v_iload_n cx 1 d_M_steepest_32 rfl rfl ?_
        refine v_iload_n cx 2 d_M_steepest_33 rfl rfl ?_
        refine v_callVi0 (st := [.int (zI (r9 * r13))]) cx (s_M_levels hr hy1 h) yk_M_levels lk_M_359 zl_41 rfl rfl rfl (Nat.le_of_ble_eq_true rfl) ⟨Nat.le_of_ble_eq_true rfl, Nat.le_of_ble_eq_true rfl⟩ ⟨rfl, rfl⟩ ⟨(Nat.le_of_ble_eq_true rfl), (Nat.le_of_ble_eq_true rfl)⟩ d_M_steepest_34 (fun r15 σ14 hr15 h => ?_)
        refine v_aload_n cx 0 d_M_steepest_37 rfl rfl ?_
        refine v_iload_n cx 1 d_M_steepest_38 rfl rfl ?_
        refine v_iload_n cx 3 d_M_steepest_39 rfl rfl ?_
        refine v_callVi0 (st := [.int (zI r15), .int (zI (r9 * r13))]) cx (s_M_stepHeading hr hy2 h) yk_M_stepHeading lk_M_308 zl_41 rfl rfl rfl (Nat.le_of_ble_eq_true rfl) ⟨Nat.le_of_ble_eq_true rfl, Nat.le_of_ble_eq_true rfl⟩ ⟨rfl, rfl⟩ ⟨(Nat.le_of_ble_eq_true rfl), (Nat.le_of_ble_eq_true rfl)⟩ d_M_steepest_40 (fun r17 σ16 hr17 h => ?_)
        refine v_callSi0 (st := [.int (zI r15), .int (zI (r9 * r13))]) cx (s_M_longOf hr17 h) yk_M_longOf lk_M_108 rfl rfl (Nat.le_of_ble_eq_true rfl) ⟨Nat.le_of_ble_eq_true rfl, Nat.le_of_ble_eq_true rfl⟩ ⟨rfl, rfl⟩ ⟨(Nat.le_of_ble_eq_true rfl), (Nat.le_of_ble_eq_true rfl)⟩ d_M_steepest_43 (fun r19 σ18 hr19 h => ?_)
        refine v_imul cx d_M_steepest_46 ?_
        obtain ⟨hr20, h⟩ := h
        obtain ⟨hr21, h⟩ := h
        refine v_icmp_le cx 52 d_M_steepest_47 (by decide) hr20 hr21 (fun c22 => ?_) (fun c22 => ?_)
        · replace h := h.1 c22
          refine v_iinc (lv' := [(0, .ref (ad 41)), (1, .int (zI r)), (2, .int (zI y1)), (3, .int (zI (y2 + 1)))]) cx 3 d_M_steepest_52 rfl (by decide) rfl rfl ?_
          refine v_goto cx 4 d_M_steepest_55 (by decide) ?_
          obtain ⟨hI2, hz24, hm2⟩ := h
          exact ih4 _ _ _ (Nat.lt_of_lt_of_le hm2 (Nat.le_of_lt_succ hmm4)) hI2 hy1 hz24
        · replace h := h.2 c22
          refine v_iload_n cx 3 d_M_steepest_50 rfl rfl ?_
          refine v_istore_n (lv' := [(0, .ref (ad 41)), (1, .int (zI r)), (2, .int (zI y2)), (3, .int (zI y2))]) cx d_M_steepest_51 rfl (by decide) rfl rfl ?_
          refine v_iinc (lv' := [(0, .ref (ad 41)), (1, .int (zI r)), (2, .int (zI y2)), (3, .int (zI (y2 + 1)))]) cx 3 d_M_steepest_52 rfl (by decide) rfl rfl ?_
          refine v_goto cx 4 d_M_steepest_55 (by decide) ?_
          obtain ⟨hI2, hz26, hm2⟩ := h
          exact ih4 _ _ _ (Nat.lt_of_lt_of_le hm2 (Nat.le_of_lt_succ hmm4)) hI2 hy2 hz26
  exact L4 _ _ _ _ (Nat.lt_succ_self _) h0 ⟨by decide, by decide⟩ ⟨by decide, by decide⟩
def q_M_earthNow (r : Int) (K : Int → zS → Prop) (σ : zS) : Prop :=
  ∃ (I4 : Int → Int → zS → Prop) (μ4 : Int → Int → zS → Nat), (I4 0 0 σ) ∧ ∀ (y1 y2 : Int) (σ3 : zS), I4 y1 y2 σ3 → zR y1 → zR y2 → 
  q_M_many r (fun r5 σ4 =>
    (r5 ≤ y2 →
      K y1 σ4) ∧ (y2 < r5 →
      q_M_offsetAt r y2 (fun r8 σ7 =>
        q_M_earthOf r8 (fun r10 σ9 =>
          ∀ x11 : Int, x11 = y1 + r10 → I4 x11 (y2 + 1) σ9 ∧ zR x11 ∧ zR (y2 + 1) ∧ μ4 x11 (y2 + 1) σ9 < μ4 y1 y2 σ3) σ7) σ4)) σ3
abbrev rm_M_earthNow : Room := { frames := 1, cells := 0, slots := 0, locals := 22 }
set_option maxRecDepth 20000 in
set_option maxHeartbeats 4000000 in
theorem s_M_earthNow {Ω : zO} {ad : Nat → Nat} {r : Int} {K : Int → zS → Prop} {σ : zS} (hr : zR r) (h : q_M_earthNow r K σ) : zMi Ω y_M_earthNow (.code y_M_earthNow c_M_earthNow 4 (some .int)) rm_M_earthNow zLy ad [.ref (ad 41), .int (zI r)] σ K := by
  refine z_ofi (lv := [(0, .ref (ad 41)), (1, .int (zI r))]) (by decide) rfl (Nat.le_of_ble_eq_true rfl) ?_
  intro Γ Q cx rt
  unfold q_M_earthNow at h
  refine v_iconst cx d_M_earthNow_0 ?_
  refine v_istore_n (lv' := [(0, .ref (ad 41)), (1, .int (zI r)), (2, .int (zI 0))]) cx d_M_earthNow_1 rfl (by decide) rfl rfl ?_
  refine v_iconst cx d_M_earthNow_2 ?_
  refine v_istore_n (lv' := [(0, .ref (ad 41)), (1, .int (zI r)), (2, .int (zI 0)), (3, .int (zI 0))]) cx d_M_earthNow_3 rfl (by decide) rfl rfl ?_
  obtain ⟨I4, μ4, h0, h⟩ := h
  have L4 : ∀ (N4 : Nat) (y1 y2 : Int) (σ3 : zS), μ4 y1 y2 σ3 < N4 → I4 y1 y2 σ3 → zR y1 → zR y2 → zV Ω Γ rm_M_earthNow 4 Q 0 0 zLy ad σ3 4 [(0, .ref (ad 41)), (1, .int (zI r)), (2, .int (zI y1)), (3, .int (zI y2))] [] := by
    intro N4
    induction N4 with
    | zero => intro y1 y2 σ3 hm; exact absurd hm (Nat.not_lt_zero _)
    | succ N4 ih4 =>
      intro y1 y2 σ3 hmm4 hI hy1 hy2
      replace h := h y1 y2 σ3 hI hy1 hy2
      refine v_iload_n cx 3 d_M_earthNow_4 rfl rfl ?_
      refine v_aload_n cx 0 d_M_earthNow_5 rfl rfl ?_
      refine v_iload_n cx 1 d_M_earthNow_6 rfl rfl ?_
      refine v_callVi0 (st := [.int (zI y2)]) cx (s_M_many hr h) yk_M_many lk_M_129 zl_41 rfl rfl rfl (Nat.le_of_ble_eq_true rfl) ⟨Nat.le_of_ble_eq_true rfl, Nat.le_of_ble_eq_true rfl⟩ ⟨rfl, rfl⟩ ⟨(Nat.le_of_ble_eq_true rfl), (Nat.le_of_ble_eq_true rfl)⟩ d_M_earthNow_7 (fun r5 σ4 hr5 h => ?_)
      refine v_icmp_ge cx 32 d_M_earthNow_10 (by decide) hy2 hr5 (fun c6 => ?_) (fun c6 => ?_)
      · replace h := h.1 c6
        refine v_iload_n cx 2 d_M_earthNow_32 rfl rfl ?_
        exact rt _ _ _ _ _ _ (Nat.le_of_ble_eq_true rfl) (Nat.le_of_ble_eq_true rfl) d_M_earthNow_33 hy1 h
      · replace h := h.2 c6
        refine v_iload_n cx 2 d_M_earthNow_13 rfl rfl ?_
        refine v_aload_n cx 0 d_M_earthNow_14 rfl rfl ?_
        refine v_aload_n cx 0 d_M_earthNow_15 rfl rfl ?_
        refine v_iload_n cx 1 d_M_earthNow_16 rfl rfl ?_
        refine v_iload_n cx 3 d_M_earthNow_17 rfl rfl ?_
        refine v_callVi0 (st := [.ref (ad 41), .int (zI y1)]) cx (s_M_offsetAt hr hy2 h) yk_M_offsetAt lk_M_362 zl_41 rfl rfl rfl (Nat.le_of_ble_eq_true rfl) ⟨Nat.le_of_ble_eq_true rfl, Nat.le_of_ble_eq_true rfl⟩ ⟨rfl, rfl⟩ ⟨(Nat.le_of_ble_eq_true rfl), (Nat.le_of_ble_eq_true rfl)⟩ d_M_earthNow_18 (fun r8 σ7 hr8 h => ?_)
        refine v_callVi0 (st := [.int (zI y1)]) cx (s_M_earthOf hr8 h) yk_M_earthOf lk_M_318 zl_41 rfl rfl rfl (Nat.le_of_ble_eq_true rfl) ⟨Nat.le_of_ble_eq_true rfl, Nat.le_of_ble_eq_true rfl⟩ ⟨rfl, rfl⟩ ⟨(Nat.le_of_ble_eq_true rfl), (Nat.le_of_ble_eq_true rfl)⟩ d_M_earthNow_21 (fun r10 σ9 hr10 h => ?_)
        refine v_iadd cx d_M_earthNow_24 ?_
        refine v_nm (fun x11 ex11 => ?_)
        replace h := h x11 ex11
        refine v_istore_n (lv' := [(0, .ref (ad 41)), (1, .int (zI r)), (2, .int (zI x11)), (3, .int (zI y2))]) cx d_M_earthNow_25 rfl (by decide) rfl rfl ?_
        refine v_iinc (lv' := [(0, .ref (ad 41)), (1, .int (zI r)), (2, .int (zI x11)), (3, .int (zI (y2 + 1)))]) cx 3 d_M_earthNow_26 rfl (by decide) rfl rfl ?_
        refine v_goto cx 4 d_M_earthNow_29 (by decide) ?_
        obtain ⟨hI2, hz13, hz14, hm2⟩ := h
        exact ih4 _ _ _ (Nat.lt_of_lt_of_le hm2 (Nat.le_of_lt_succ hmm4)) hI2 hz13 hz14
  exact L4 _ _ _ _ (Nat.lt_succ_self _) h0 ⟨by decide, by decide⟩ ⟨by decide, by decide⟩
def q_M_offsets (r : Int) (K : Int → zS → Prop) (σ : zS) : Prop :=
  ∃ (I4 : Int → Int → zS → Prop) (μ4 : Int → Int → zS → Nat), (I4 0 0 σ) ∧ ∀ (y1 y2 : Int) (σ3 : zS), I4 y1 y2 σ3 → zR y1 → zR y2 → 
  q_M_many r (fun r5 σ4 =>
    (r5 ≤ y2 →
      K y1 σ4) ∧ (y2 < r5 →
      q_M_offsetAt r y2 (fun r8 σ7 =>
        ∀ x9 : Int, x9 = y1 + r8 → I4 x9 (y2 + 1) σ7 ∧ zR x9 ∧ zR (y2 + 1) ∧ μ4 x9 (y2 + 1) σ7 < μ4 y1 y2 σ3) σ4)) σ3
abbrev rm_M_offsets : Room := { frames := 1, cells := 0, slots := 0, locals := 22 }
set_option maxRecDepth 20000 in
set_option maxHeartbeats 4000000 in
theorem s_M_offsets {Ω : zO} {ad : Nat → Nat} {r : Int} {K : Int → zS → Prop} {σ : zS} (hr : zR r) (h : q_M_offsets r K σ) : zMi Ω y_M_offsets (.code y_M_offsets c_M_offsets 4 (some .int)) rm_M_offsets zLy ad [.ref (ad 41), .int (zI r)] σ K := by
  refine z_ofi (lv := [(0, .ref (ad 41)), (1, .int (zI r))]) (by decide) rfl (Nat.le_of_ble_eq_true rfl) ?_
  intro Γ Q cx rt
  unfold q_M_offsets at h
  refine v_iconst cx d_M_offsets_0 ?_
  refine v_istore_n (lv' := [(0, .ref (ad 41)), (1, .int (zI r)), (2, .int (zI 0))]) cx d_M_offsets_1 rfl (by decide) rfl rfl ?_
  refine v_iconst cx d_M_offsets_2 ?_
  refine v_istore_n (lv' := [(0, .ref (ad 41)), (1, .int (zI r)), (2, .int (zI 0)), (3, .int (zI 0))]) cx d_M_offsets_3 rfl (by decide) rfl rfl ?_
  obtain ⟨I4, μ4, h0, h⟩ := h
  have L4 : ∀ (N4 : Nat) (y1 y2 : Int) (σ3 : zS), μ4 y1 y2 σ3 < N4 → I4 y1 y2 σ3 → zR y1 → zR y2 → zV Ω Γ rm_M_offsets 4 Q 0 0 zLy ad σ3 4 [(0, .ref (ad 41)), (1, .int (zI r)), (2, .int (zI y1)), (3, .int (zI y2))] [] := by
    intro N4
    induction N4 with
    | zero => intro y1 y2 σ3 hm; exact absurd hm (Nat.not_lt_zero _)
    | succ N4 ih4 =>
      intro y1 y2 σ3 hmm4 hI hy1 hy2
      replace h := h y1 y2 σ3 hI hy1 hy2
      refine v_iload_n cx 3 d_M_offsets_4 rfl rfl ?_
      refine v_aload_n cx 0 d_M_offsets_5 rfl rfl ?_
      refine v_iload_n cx 1 d_M_offsets_6 rfl rfl ?_
      refine v_callVi0 (st := [.int (zI y2)]) cx (s_M_many hr h) yk_M_many lk_M_129 zl_41 rfl rfl rfl (Nat.le_of_ble_eq_true rfl) ⟨Nat.le_of_ble_eq_true rfl, Nat.le_of_ble_eq_true rfl⟩ ⟨rfl, rfl⟩ ⟨(Nat.le_of_ble_eq_true rfl), (Nat.le_of_ble_eq_true rfl)⟩ d_M_offsets_7 (fun r5 σ4 hr5 h => ?_)
      refine v_icmp_ge cx 28 d_M_offsets_10 (by decide) hy2 hr5 (fun c6 => ?_) (fun c6 => ?_)
      · replace h := h.1 c6
        refine v_iload_n cx 2 d_M_offsets_28 rfl rfl ?_
        exact rt _ _ _ _ _ _ (Nat.le_of_ble_eq_true rfl) (Nat.le_of_ble_eq_true rfl) d_M_offsets_29 hy1 h
      · replace h := h.2 c6
        refine v_iload_n cx 2 d_M_offsets_13 rfl rfl ?_
        refine v_aload_n cx 0 d_M_offsets_14 rfl rfl ?_
        refine v_iload_n cx 1 d_M_offsets_15 rfl rfl ?_
        refine v_iload_n cx 3 d_M_offsets_16 rfl rfl ?_
        refine v_callVi0 (st := [.int (zI y1)]) cx (s_M_offsetAt hr hy2 h) yk_M_offsetAt lk_M_362 zl_41 rfl rfl rfl (Nat.le_of_ble_eq_true rfl) ⟨Nat.le_of_ble_eq_true rfl, Nat.le_of_ble_eq_true rfl⟩ ⟨rfl, rfl⟩ ⟨(Nat.le_of_ble_eq_true rfl), (Nat.le_of_ble_eq_true rfl)⟩ d_M_offsets_17 (fun r8 σ7 hr8 h => ?_)
        refine v_iadd cx d_M_offsets_20 ?_
        refine v_nm (fun x9 ex9 => ?_)
        replace h := h x9 ex9
        refine v_istore_n (lv' := [(0, .ref (ad 41)), (1, .int (zI r)), (2, .int (zI x9)), (3, .int (zI y2))]) cx d_M_offsets_21 rfl (by decide) rfl rfl ?_
        refine v_iinc (lv' := [(0, .ref (ad 41)), (1, .int (zI r)), (2, .int (zI x9)), (3, .int (zI (y2 + 1)))]) cx 3 d_M_offsets_22 rfl (by decide) rfl rfl ?_
        refine v_goto cx 4 d_M_offsets_25 (by decide) ?_
        obtain ⟨hI2, hz11, hz12, hm2⟩ := h
        exact ih4 _ _ _ (Nat.lt_of_lt_of_le hm2 (Nat.le_of_lt_succ hmm4)) hI2 hz11 hz12
  exact L4 _ _ _ _ (Nat.lt_succ_self _) h0 ⟨by decide, by decide⟩ ⟨by decide, by decide⟩
def q_M_highest (r : Int) (isHigh : Int) (K : Int → zS → Prop) (σ : zS) : Prop :=
  q_M_levelAt r 0 (fun r2 σ1 =>
    ∃ (I10 : Int → Int → zS → Prop) (μ10 : Int → Int → zS → Nat), (I10 r2 1 σ1) ∧ ∀ (y3 y4 : Int) (σ5 : zS), I10 y3 y4 σ5 → zR y3 → zR y4 → 
    q_M_many r (fun r7 σ6 =>
      (r7 ≤ y4 →
        K y3 σ6) ∧ (y4 < r7 →
        q_M_levelAt r y4 (fun r10 σ9 =>
          (isHigh = 0 →
            (y3 ≤ r10 →
              I10 y3 (y4 + 1) σ9 ∧ zR (y4 + 1) ∧ μ10 y3 (y4 + 1) σ9 < μ10 y3 y4 σ5) ∧ (r10 < y3 →
              I10 r10 (y4 + 1) σ9 ∧ zR (y4 + 1) ∧ μ10 r10 (y4 + 1) σ9 < μ10 y3 y4 σ5)) ∧ (isHigh ≠ 0 →
            (r10 ≤ y3 →
              I10 y3 (y4 + 1) σ9 ∧ zR (y4 + 1) ∧ μ10 y3 (y4 + 1) σ9 < μ10 y3 y4 σ5) ∧ (y3 < r10 →
              I10 r10 (y4 + 1) σ9 ∧ zR (y4 + 1) ∧ μ10 r10 (y4 + 1) σ9 < μ10 y3 y4 σ5))) σ6)) σ5) σ
abbrev rm_M_highest : Room := { frames := 2, cells := 0, slots := 0, locals := 44 }
set_option maxRecDepth 20000 in
set_option maxHeartbeats 4000000 in
theorem s_M_highest {Ω : zO} {ad : Nat → Nat} {r : Int} {isHigh : Int} {K : Int → zS → Prop} {σ : zS} (hr : zR r) (hisHigh : isHigh = 0 ∨ isHigh = 1) (h : q_M_highest r isHigh K σ) : zMi Ω y_M_highest (.code y_M_highest c_M_highest 6 (some .int)) rm_M_highest zLy ad [.ref (ad 41), .int (zI r), .int (zI isHigh)] σ K := by
  refine z_ofi (lv := [(0, .ref (ad 41)), (1, .int (zI r)), (2, .int (zI isHigh))]) (by decide) rfl (Nat.le_of_ble_eq_true rfl) ?_
  intro Γ Q cx rt
  unfold q_M_highest at h
  refine v_aload_n cx 0 d_M_highest_0 rfl rfl ?_
  refine v_iload_n cx 1 d_M_highest_1 rfl rfl ?_
  refine v_iconst cx d_M_highest_2 ?_
  refine v_callVi0 (st := []) cx (s_M_levelAt hr ⟨by decide, by decide⟩ h) yk_M_levelAt lk_M_356 zl_41 rfl rfl rfl (Nat.le_of_ble_eq_true rfl) ⟨Nat.le_of_ble_eq_true rfl, Nat.le_of_ble_eq_true rfl⟩ ⟨rfl, rfl⟩ ⟨(Nat.le_of_ble_eq_true rfl), (Nat.le_of_ble_eq_true rfl)⟩ d_M_highest_3 (fun r2 σ1 hr2 h => ?_)
  refine v_istore_n (lv' := [(0, .ref (ad 41)), (1, .int (zI r)), (2, .int (zI isHigh)), (3, .int (zI r2))]) cx d_M_highest_6 rfl (by decide) rfl rfl ?_
  refine v_iconst cx d_M_highest_7 ?_
  refine v_istore (lv' := [(0, .ref (ad 41)), (1, .int (zI r)), (2, .int (zI isHigh)), (3, .int (zI r2)), (4, .int (zI 1))]) cx d_M_highest_8 (by decide) rfl rfl ?_
  obtain ⟨I10, μ10, h0, h⟩ := h
  have L10 : ∀ (N10 : Nat) (y3 y4 : Int) (σ5 : zS), μ10 y3 y4 σ5 < N10 → I10 y3 y4 σ5 → zR y3 → zR y4 → zV Ω Γ rm_M_highest 6 Q 0 0 zLy ad σ5 10 [(0, .ref (ad 41)), (1, .int (zI r)), (2, .int (zI isHigh)), (3, .int (zI y3)), (4, .int (zI y4))] [] := by
    intro N10
    induction N10 with
    | zero => intro y3 y4 σ5 hm; exact absurd hm (Nat.not_lt_zero _)
    | succ N10 ih10 =>
      intro y3 y4 σ5 hmm10 hI hy3 hy4
      replace h := h y3 y4 σ5 hI hy3 hy4
      refine v_iload cx 4 d_M_highest_10 rfl ?_
      refine v_aload_n cx 0 d_M_highest_12 rfl rfl ?_
      refine v_iload_n cx 1 d_M_highest_13 rfl rfl ?_
      refine v_callVi0 (st := [.int (zI y4)]) cx (s_M_many hr h) yk_M_many lk_M_129 zl_41 rfl rfl rfl (Nat.le_of_ble_eq_true rfl) ⟨Nat.le_of_ble_eq_true rfl, Nat.le_of_ble_eq_true rfl⟩ ⟨rfl, rfl⟩ ⟨(Nat.le_of_ble_eq_true rfl), (Nat.le_of_ble_eq_true rfl)⟩ d_M_highest_14 (fun r7 σ6 hr7 h => ?_)
      refine v_icmp_ge cx 57 d_M_highest_17 (by decide) hy4 hr7 (fun c8 => ?_) (fun c8 => ?_)
      · replace h := h.1 c8
        refine v_iload_n cx 3 d_M_highest_57 rfl rfl ?_
        exact rt _ _ _ _ _ _ (Nat.le_of_ble_eq_true rfl) (Nat.le_of_ble_eq_true rfl) d_M_highest_58 hy3 h
      · replace h := h.2 c8
        refine v_aload_n cx 0 d_M_highest_20 rfl rfl ?_
        refine v_iload_n cx 1 d_M_highest_21 rfl rfl ?_
        refine v_iload cx 4 d_M_highest_22 rfl ?_
        refine v_callVi0 (st := []) cx (s_M_levelAt hr hy4 h) yk_M_levelAt lk_M_356 zl_41 rfl rfl rfl (Nat.le_of_ble_eq_true rfl) ⟨Nat.le_of_ble_eq_true rfl, Nat.le_of_ble_eq_true rfl⟩ ⟨rfl, rfl⟩ ⟨(Nat.le_of_ble_eq_true rfl), (Nat.le_of_ble_eq_true rfl)⟩ d_M_highest_24 (fun r10 σ9 hr10 h => ?_)
        refine v_istore (lv' := [(0, .ref (ad 41)), (1, .int (zI r)), (2, .int (zI isHigh)), (3, .int (zI y3)), (4, .int (zI y4)), (5, .int (zI r10))]) cx d_M_highest_27 (by decide) rfl rfl ?_
        refine v_iload_n cx 2 d_M_highest_29 rfl rfl ?_
        refine v_if_eq cx 42 d_M_highest_30 (by decide) (zR_b hisHigh) (fun c11 => ?_) (fun c11 => ?_)
        · replace h := h.1 c11
          refine v_iload cx 5 d_M_highest_42 rfl ?_
          refine v_iload_n cx 3 d_M_highest_44 rfl rfl ?_
          refine v_icmp_ge cx 51 d_M_highest_45 (by decide) hr10 hy3 (fun c12 => ?_) (fun c12 => ?_)
          · replace h := h.1 c12
            refine v_iinc (lv' := [(0, .ref (ad 41)), (1, .int (zI r)), (2, .int (zI isHigh)), (3, .int (zI y3)), (4, .int (zI (y4 + 1))), (5, .int (zI r10))]) cx 4 d_M_highest_51 rfl (by decide) rfl rfl ?_
            refine v_goto cx 10 d_M_highest_54 (by decide) ?_
            refine v_sb (lv' := [(0, .ref (ad 41)), (1, .int (zI r)), (2, .int (zI isHigh)), (3, .int (zI y3)), (4, .int (zI (y4 + 1)))]) [0, 1, 2, 3, 4] rfl ?_
            obtain ⟨hI2, hz14, hm2⟩ := h
            exact ih10 _ _ _ (Nat.lt_of_lt_of_le hm2 (Nat.le_of_lt_succ hmm10)) hI2 hy3 hz14
          · replace h := h.2 c12
            refine v_iload cx 5 d_M_highest_48 rfl ?_
            refine v_istore_n (lv' := [(0, .ref (ad 41)), (1, .int (zI r)), (2, .int (zI isHigh)), (3, .int (zI r10)), (4, .int (zI y4)), (5, .int (zI r10))]) cx d_M_highest_50 rfl (by decide) rfl rfl ?_
            refine v_iinc (lv' := [(0, .ref (ad 41)), (1, .int (zI r)), (2, .int (zI isHigh)), (3, .int (zI r10)), (4, .int (zI (y4 + 1))), (5, .int (zI r10))]) cx 4 d_M_highest_51 rfl (by decide) rfl rfl ?_
            refine v_goto cx 10 d_M_highest_54 (by decide) ?_
            refine v_sb (lv' := [(0, .ref (ad 41)), (1, .int (zI r)), (2, .int (zI isHigh)), (3, .int (zI r10)), (4, .int (zI (y4 + 1)))]) [0, 1, 2, 3, 4] rfl ?_
            obtain ⟨hI2, hz16, hm2⟩ := h
            exact ih10 _ _ _ (Nat.lt_of_lt_of_le hm2 (Nat.le_of_lt_succ hmm10)) hI2 hr10 hz16
        · replace h := h.2 c11
          refine v_iload cx 5 d_M_highest_33 rfl ?_
          refine v_iload_n cx 3 d_M_highest_35 rfl rfl ?_
          refine v_icmp_le cx 51 d_M_highest_36 (by decide) hr10 hy3 (fun c17 => ?_) (fun c17 => ?_)
          · replace h := h.1 c17
            refine v_iinc (lv' := [(0, .ref (ad 41)), (1, .int (zI r)), (2, .int (zI isHigh)), (3, .int (zI y3)), (4, .int (zI (y4 + 1))), (5, .int (zI r10))]) cx 4 d_M_highest_51 rfl (by decide) rfl rfl ?_
            refine v_goto cx 10 d_M_highest_54 (by decide) ?_
            refine v_sb (lv' := [(0, .ref (ad 41)), (1, .int (zI r)), (2, .int (zI isHigh)), (3, .int (zI y3)), (4, .int (zI (y4 + 1)))]) [0, 1, 2, 3, 4] rfl ?_
            obtain ⟨hI2, hz19, hm2⟩ := h
            exact ih10 _ _ _ (Nat.lt_of_lt_of_le hm2 (Nat.le_of_lt_succ hmm10)) hI2 hy3 hz19
          · replace h := h.2 c17
            refine v_goto cx 48 d_M_highest_39 (by decide) ?_
            refine v_iload cx 5 d_M_highest_48 rfl ?_
            refine v_istore_n (lv' := [(0, .ref (ad 41)), (1, .int (zI r)), (2, .int (zI isHigh)), (3, .int (zI r10)), (4, .int (zI y4)), (5, .int (zI r10))]) cx d_M_highest_50 rfl (by decide) rfl rfl ?_
            refine v_iinc (lv' := [(0, .ref (ad 41)), (1, .int (zI r)), (2, .int (zI isHigh)), (3, .int (zI r10)), (4, .int (zI (y4 + 1))), (5, .int (zI r10))]) cx 4 d_M_highest_51 rfl (by decide) rfl rfl ?_
            refine v_goto cx 10 d_M_highest_54 (by decide) ?_
            refine v_sb (lv' := [(0, .ref (ad 41)), (1, .int (zI r)), (2, .int (zI isHigh)), (3, .int (zI r10)), (4, .int (zI (y4 + 1)))]) [0, 1, 2, 3, 4] rfl ?_
            obtain ⟨hI2, hz21, hm2⟩ := h
            exact ih10 _ _ _ (Nat.lt_of_lt_of_le hm2 (Nat.le_of_lt_succ hmm10)) hI2 hr10 hz21
  exact L10 _ _ _ _ (Nat.lt_succ_self _) h0 hr2 ⟨by decide, by decide⟩
def q_M_straight (r : Int) (K : Int → zS → Prop) (σ : zS) : Prop :=
  ∃ (I7 : Int → Int → Int → zS → Prop) (μ7 : Int → Int → Int → zS → Nat), (I7 0 0 0 σ) ∧ ∀ (y1 y2 y3 : Int) (σ4 : zS), I7 y1 y2 y3 σ4 → zR y1 → zR y2 → zR y3 → 
  q_M_many r (fun r6 σ5 =>
    zR (r6 - 1) ∧ (((r6 - 1) ≤ y3 →
        K y1 σ5) ∧ (y3 < (r6 - 1) →
        ∃ J50 : Int → zS → Prop, (∀ (w9 : Int) (σ10 : zS), J50 w9 σ10 → zR w9 → 
          (w9 ≤ y1 →
            I7 y1 w9 (y3 + 1) σ10 ∧ zR (y3 + 1) ∧ μ7 y1 w9 (y3 + 1) σ10 < μ7 y1 y2 y3 σ4) ∧ (y1 < w9 →
            I7 w9 w9 (y3 + 1) σ10 ∧ zR (y3 + 1) ∧ μ7 w9 w9 (y3 + 1) σ10 < μ7 y1 y2 y3 σ4)) ∧
        (∃ J49 : zS → Prop, (∀ (σ16 : zS), J49 σ16 → 
            J50 1 σ16) ∧
          ((y3 ≤ 0 →
              J49 σ5) ∧ (0 < y3 →
              q_M_stepHeading r y3 (fun r19 σ18 =>
                zR (y3 - 1) ∧ (q_M_stepHeading r (y3 - 1) (fun r22 σ21 =>
                    (r19 ≠ r22 →
                      J49 σ21) ∧ (r19 = r22 →
                      J50 (y2 + 1) σ21 ∧ zR (y2 + 1))) σ18)) σ5)))))) σ4
abbrev rm_M_straight : Room := { frames := 3, cells := 0, slots := 0, locals := 65 }
set_option maxRecDepth 20000 in
set_option maxHeartbeats 4000000 in
theorem s_M_straight {Ω : zO} {ad : Nat → Nat} {r : Int} {K : Int → zS → Prop} {σ : zS} (hr : zR r) (h : q_M_straight r K σ) : zMi Ω y_M_straight (.code y_M_straight c_M_straight 5 (some .int)) rm_M_straight zLy ad [.ref (ad 41), .int (zI r)] σ K := by
  refine z_ofi (lv := [(0, .ref (ad 41)), (1, .int (zI r))]) (by decide) rfl (Nat.le_of_ble_eq_true rfl) ?_
  intro Γ Q cx rt
  unfold q_M_straight at h
  refine v_iconst cx d_M_straight_0 ?_
  refine v_istore_n (lv' := [(0, .ref (ad 41)), (1, .int (zI r)), (2, .int (zI 0))]) cx d_M_straight_1 rfl (by decide) rfl rfl ?_
  refine v_iconst cx d_M_straight_2 ?_
  refine v_istore_n (lv' := [(0, .ref (ad 41)), (1, .int (zI r)), (2, .int (zI 0)), (3, .int (zI 0))]) cx d_M_straight_3 rfl (by decide) rfl rfl ?_
  refine v_iconst cx d_M_straight_4 ?_
  refine v_istore (lv' := [(0, .ref (ad 41)), (1, .int (zI r)), (2, .int (zI 0)), (3, .int (zI 0)), (4, .int (zI 0))]) cx d_M_straight_5 (by decide) rfl rfl ?_
  obtain ⟨I7, μ7, h0, h⟩ := h
  have L7 : ∀ (N7 : Nat) (y1 y2 y3 : Int) (σ4 : zS), μ7 y1 y2 y3 σ4 < N7 → I7 y1 y2 y3 σ4 → zR y1 → zR y2 → zR y3 → zV Ω Γ rm_M_straight 5 Q 0 0 zLy ad σ4 7 [(0, .ref (ad 41)), (1, .int (zI r)), (2, .int (zI y1)), (3, .int (zI y2)), (4, .int (zI y3))] [] := by
    intro N7
    induction N7 with
    | zero => intro y1 y2 y3 σ4 hm; exact absurd hm (Nat.not_lt_zero _)
    | succ N7 ih7 =>
      intro y1 y2 y3 σ4 hmm7 hI hy1 hy2 hy3
      replace h := h y1 y2 y3 σ4 hI hy1 hy2 hy3
      refine v_iload cx 4 d_M_straight_7 rfl ?_
      refine v_aload_n cx 0 d_M_straight_9 rfl rfl ?_
      refine v_iload_n cx 1 d_M_straight_10 rfl rfl ?_
      refine v_callVi0 (st := [.int (zI y3)]) cx (s_M_many hr h) yk_M_many lk_M_129 zl_41 rfl rfl rfl (Nat.le_of_ble_eq_true rfl) ⟨Nat.le_of_ble_eq_true rfl, Nat.le_of_ble_eq_true rfl⟩ ⟨rfl, rfl⟩ ⟨(Nat.le_of_ble_eq_true rfl), (Nat.le_of_ble_eq_true rfl)⟩ d_M_straight_11 (fun r6 σ5 hr6 h => ?_)
      refine v_iconst cx d_M_straight_14 ?_
      refine v_isub cx d_M_straight_15 ?_
      obtain ⟨hr7, h⟩ := h
      refine v_icmp_ge cx 64 d_M_straight_16 (by decide) hy3 hr7 (fun c8 => ?_) (fun c8 => ?_)
      · replace h := h.1 c8
        refine v_iload_n cx 2 d_M_straight_64 rfl rfl ?_
        exact rt _ _ _ _ _ _ (Nat.le_of_ble_eq_true rfl) (Nat.le_of_ble_eq_true rfl) d_M_straight_65 hy1 h
      · replace h := h.2 c8
        refine v_iload cx 4 d_M_straight_19 rfl ?_
        obtain ⟨J50, hJ50, h⟩ := h
        have G50 : ∀ (w9 : Int) (σ10 : zS), J50 w9 σ10 → zR w9 → zV Ω Γ rm_M_straight 5 Q 0 0 zLy ad σ10 50 [(0, .ref (ad 41)), (1, .int (zI r)), (2, .int (zI y1)), (4, .int (zI y3))] [.int (zI w9)] := by
          intro w9 σ10 hJ hw9
          replace h := hJ50 w9 σ10 hJ hw9
          refine v_istore_n (lv' := [(0, .ref (ad 41)), (1, .int (zI r)), (2, .int (zI y1)), (4, .int (zI y3)), (3, .int (zI w9))]) cx d_M_straight_50 rfl (by decide) rfl rfl ?_
          refine v_iload_n cx 4 d_M_straight_51 rfl rfl ?_
          refine v_iload_n cx 2 d_M_straight_52 rfl rfl ?_
          refine v_icmp_le cx 58 d_M_straight_53 (by decide) hw9 hy1 (fun c11 => ?_) (fun c11 => ?_)
          · replace h := h.1 c11
            refine v_iinc (lv' := [(0, .ref (ad 41)), (1, .int (zI r)), (2, .int (zI y1)), (4, .int (zI (y3 + 1))), (3, .int (zI w9))]) cx 3 d_M_straight_58 rfl (by decide) rfl rfl ?_
            refine v_goto cx 7 d_M_straight_61 (by decide) ?_
            refine v_sb (lv' := [(0, .ref (ad 41)), (1, .int (zI r)), (2, .int (zI y1)), (3, .int (zI w9)), (4, .int (zI (y3 + 1)))]) [0, 1, 2, 4, 3] rfl ?_
            obtain ⟨hI2, hz13, hm2⟩ := h
            exact ih7 _ _ _ _ (Nat.lt_of_lt_of_le hm2 (Nat.le_of_lt_succ hmm7)) hI2 hy1 hw9 hz13
          · replace h := h.2 c11
            refine v_iload_n cx 4 d_M_straight_56 rfl rfl ?_
            refine v_istore_n (lv' := [(0, .ref (ad 41)), (1, .int (zI r)), (2, .int (zI w9)), (4, .int (zI y3)), (3, .int (zI w9))]) cx d_M_straight_57 rfl (by decide) rfl rfl ?_
            refine v_iinc (lv' := [(0, .ref (ad 41)), (1, .int (zI r)), (2, .int (zI w9)), (4, .int (zI (y3 + 1))), (3, .int (zI w9))]) cx 3 d_M_straight_58 rfl (by decide) rfl rfl ?_
            refine v_goto cx 7 d_M_straight_61 (by decide) ?_
            refine v_sb (lv' := [(0, .ref (ad 41)), (1, .int (zI r)), (2, .int (zI w9)), (3, .int (zI w9)), (4, .int (zI (y3 + 1)))]) [0, 1, 2, 4, 3] rfl ?_
            obtain ⟨hI2, hz15, hm2⟩ := h
            exact ih7 _ _ _ _ (Nat.lt_of_lt_of_le hm2 (Nat.le_of_lt_succ hmm7)) hI2 hw9 hw9 hz15
        obtain ⟨J49, hJ49, h⟩ := h
        have G49 : ∀ (σ16 : zS), J49 σ16 → zV Ω Γ rm_M_straight 5 Q 0 0 zLy ad σ16 49 [(0, .ref (ad 41)), (1, .int (zI r)), (2, .int (zI y1)), (4, .int (zI y3))] [] := by
          intro σ16 hJ 
          replace h := hJ49 σ16 hJ 
          refine v_iconst cx d_M_straight_49 ?_
          have hJ2 := h
          exact G50 _ _ hJ2 ⟨by decide, by decide⟩
        refine v_if_le cx 49 d_M_straight_21 (by decide) hy3 (fun c17 => ?_) (fun c17 => ?_)
        · replace h := h.1 c17
          refine v_sb (lv' := [(0, .ref (ad 41)), (1, .int (zI r)), (2, .int (zI y1)), (4, .int (zI y3))]) [0, 1, 2, 4] rfl ?_
          have hJ2 := h
          exact G49 _ hJ2 
        · replace h := h.2 c17
          refine v_aload_n cx 0 d_M_straight_24 rfl rfl ?_
          refine v_iload_n cx 1 d_M_straight_25 rfl rfl ?_
          refine v_iload cx 4 d_M_straight_26 rfl ?_
          refine v_callVi0 (st := []) cx (s_M_stepHeading hr hy3 h) yk_M_stepHeading lk_M_308 zl_41 rfl rfl rfl (Nat.le_of_ble_eq_true rfl) ⟨Nat.le_of_ble_eq_true rfl, Nat.le_of_ble_eq_true rfl⟩ ⟨rfl, rfl⟩ ⟨(Nat.le_of_ble_eq_true rfl), (Nat.le_of_ble_eq_true rfl)⟩ d_M_straight_28 (fun r19 σ18 hr19 h => ?_)
          refine v_aload_n cx 0 d_M_straight_31 rfl rfl ?_
          refine v_iload_n cx 1 d_M_straight_32 rfl rfl ?_
          refine v_iload cx 4 d_M_straight_33 rfl ?_
          refine v_iconst cx d_M_straight_35 ?_
          refine v_isub cx d_M_straight_36 ?_
          obtain ⟨hr20, h⟩ := h
          refine v_callVi0 (st := [.int (zI r19)]) cx (s_M_stepHeading hr hr20 h) yk_M_stepHeading lk_M_308 zl_41 rfl rfl rfl (Nat.le_of_ble_eq_true rfl) ⟨Nat.le_of_ble_eq_true rfl, Nat.le_of_ble_eq_true rfl⟩ ⟨rfl, rfl⟩ ⟨(Nat.le_of_ble_eq_true rfl), (Nat.le_of_ble_eq_true rfl)⟩ d_M_straight_37 (fun r22 σ21 hr22 h => ?_)
          refine v_icmp_ne cx 49 d_M_straight_40 (by decide) hr19 hr22 (fun c23 => ?_) (fun c23 => ?_)
          · replace h := h.1 c23
            refine v_sb (lv' := [(0, .ref (ad 41)), (1, .int (zI r)), (2, .int (zI y1)), (4, .int (zI y3))]) [0, 1, 2, 4] rfl ?_
            have hJ2 := h
            exact G49 _ hJ2 
          · replace h := h.2 c23
            refine v_iload_n cx 3 d_M_straight_43 rfl rfl ?_
            refine v_iconst cx d_M_straight_44 ?_
            refine v_iadd cx d_M_straight_45 ?_
            refine v_goto cx 50 d_M_straight_46 (by decide) ?_
            refine v_sb (lv' := [(0, .ref (ad 41)), (1, .int (zI r)), (2, .int (zI y1)), (4, .int (zI y3))]) [0, 1, 2, 4] rfl ?_
            obtain ⟨hJ2, hz24⟩ := h
            exact G50 _ _ hJ2 hz24
  exact L7 _ _ _ _ _ (Nat.lt_succ_self _) h0 ⟨by decide, by decide⟩ ⟨by decide, by decide⟩ ⟨by decide, by decide⟩
def q_M_descent (r : Int) (K : Int → zS → Prop) (σ : zS) : Prop :=
  ∃ (I4 : Int → Int → zS → Prop) (μ4 : Int → Int → zS → Nat), (I4 0 0 σ) ∧ ∀ (y1 y2 : Int) (σ3 : zS), I4 y1 y2 σ3 → zR y1 → zR y2 → 
  q_M_many r (fun r5 σ4 =>
    zR (r5 - 1) ∧ (((r5 - 1) ≤ y2 →
        K y1 σ4) ∧ (y2 < (r5 - 1) →
        zR (y2 + 1) ∧ (q_M_placeAt r (y2 + 1) (fun r10 σ9 =>
            q_M_placeAt r y2 (fun r12 σ11 =>
              q_M_climb r10 r12 (fun r14 σ13 =>
                ∀ x15 : Int, x15 = y1 + r14 → I4 x15 (y2 + 1) σ13 ∧ zR x15 ∧ μ4 x15 (y2 + 1) σ13 < μ4 y1 y2 σ3) σ11) σ9) σ4)))) σ3
abbrev rm_M_descent : Room := { frames := 1, cells := 0, slots := 0, locals := 22 }
set_option maxRecDepth 20000 in
set_option maxHeartbeats 4000000 in
theorem s_M_descent {Ω : zO} {ad : Nat → Nat} {r : Int} {K : Int → zS → Prop} {σ : zS} (hr : zR r) (h : q_M_descent r K σ) : zMi Ω y_M_descent (.code y_M_descent c_M_descent 4 (some .int)) rm_M_descent zLy ad [.ref (ad 41), .int (zI r)] σ K := by
  refine z_ofi (lv := [(0, .ref (ad 41)), (1, .int (zI r))]) (by decide) rfl (Nat.le_of_ble_eq_true rfl) ?_
  intro Γ Q cx rt
  unfold q_M_descent at h
  refine v_iconst cx d_M_descent_0 ?_
  refine v_istore_n (lv' := [(0, .ref (ad 41)), (1, .int (zI r)), (2, .int (zI 0))]) cx d_M_descent_1 rfl (by decide) rfl rfl ?_
  refine v_iconst cx d_M_descent_2 ?_
  refine v_istore_n (lv' := [(0, .ref (ad 41)), (1, .int (zI r)), (2, .int (zI 0)), (3, .int (zI 0))]) cx d_M_descent_3 rfl (by decide) rfl rfl ?_
  obtain ⟨I4, μ4, h0, h⟩ := h
  have L4 : ∀ (N4 : Nat) (y1 y2 : Int) (σ3 : zS), μ4 y1 y2 σ3 < N4 → I4 y1 y2 σ3 → zR y1 → zR y2 → zV Ω Γ rm_M_descent 4 Q 0 0 zLy ad σ3 4 [(0, .ref (ad 41)), (1, .int (zI r)), (2, .int (zI y1)), (3, .int (zI y2))] [] := by
    intro N4
    induction N4 with
    | zero => intro y1 y2 σ3 hm; exact absurd hm (Nat.not_lt_zero _)
    | succ N4 ih4 =>
      intro y1 y2 σ3 hmm4 hI hy1 hy2
      replace h := h y1 y2 σ3 hI hy1 hy2
      refine v_iload_n cx 3 d_M_descent_4 rfl rfl ?_
      refine v_aload_n cx 0 d_M_descent_5 rfl rfl ?_
      refine v_iload_n cx 1 d_M_descent_6 rfl rfl ?_
      refine v_callVi0 (st := [.int (zI y2)]) cx (s_M_many hr h) yk_M_many lk_M_129 zl_41 rfl rfl rfl (Nat.le_of_ble_eq_true rfl) ⟨Nat.le_of_ble_eq_true rfl, Nat.le_of_ble_eq_true rfl⟩ ⟨rfl, rfl⟩ ⟨(Nat.le_of_ble_eq_true rfl), (Nat.le_of_ble_eq_true rfl)⟩ d_M_descent_7 (fun r5 σ4 hr5 h => ?_)
      refine v_iconst cx d_M_descent_10 ?_
      refine v_isub cx d_M_descent_11 ?_
      obtain ⟨hr6, h⟩ := h
      refine v_icmp_ge cx 42 d_M_descent_12 (by decide) hy2 hr6 (fun c7 => ?_) (fun c7 => ?_)
      · replace h := h.1 c7
        refine v_iload_n cx 2 d_M_descent_42 rfl rfl ?_
        exact rt _ _ _ _ _ _ (Nat.le_of_ble_eq_true rfl) (Nat.le_of_ble_eq_true rfl) d_M_descent_43 hy1 h
      · replace h := h.2 c7
        refine v_iload_n cx 2 d_M_descent_15 rfl rfl ?_
        refine v_aload_n cx 0 d_M_descent_16 rfl rfl ?_
        refine v_aload_n cx 0 d_M_descent_17 rfl rfl ?_
        refine v_iload_n cx 1 d_M_descent_18 rfl rfl ?_
        refine v_iload_n cx 3 d_M_descent_19 rfl rfl ?_
        refine v_iconst cx d_M_descent_20 ?_
        refine v_iadd cx d_M_descent_21 ?_
        obtain ⟨hr8, h⟩ := h
        refine v_callVi0 (st := [.ref (ad 41), .int (zI y1)]) cx (s_M_placeAt hr hr8 h) yk_M_placeAt lk_M_212 zl_41 rfl rfl rfl (Nat.le_of_ble_eq_true rfl) ⟨Nat.le_of_ble_eq_true rfl, Nat.le_of_ble_eq_true rfl⟩ ⟨rfl, rfl⟩ ⟨(Nat.le_of_ble_eq_true rfl), (Nat.le_of_ble_eq_true rfl)⟩ d_M_descent_22 (fun r10 σ9 hr10 h => ?_)
        refine v_aload_n cx 0 d_M_descent_25 rfl rfl ?_
        refine v_iload_n cx 1 d_M_descent_26 rfl rfl ?_
        refine v_iload_n cx 3 d_M_descent_27 rfl rfl ?_
        refine v_callVi0 (st := [.int (zI r10), .ref (ad 41), .int (zI y1)]) cx (s_M_placeAt hr hy2 h) yk_M_placeAt lk_M_212 zl_41 rfl rfl rfl (Nat.le_of_ble_eq_true rfl) ⟨Nat.le_of_ble_eq_true rfl, Nat.le_of_ble_eq_true rfl⟩ ⟨rfl, rfl⟩ ⟨(Nat.le_of_ble_eq_true rfl), (Nat.le_of_ble_eq_true rfl)⟩ d_M_descent_28 (fun r12 σ11 hr12 h => ?_)
        refine v_callVi0 (st := [.int (zI y1)]) cx (s_M_climb hr10 hr12 h) yk_M_climb lk_M_136 zl_41 rfl rfl rfl (Nat.le_of_ble_eq_true rfl) ⟨Nat.le_of_ble_eq_true rfl, Nat.le_of_ble_eq_true rfl⟩ ⟨rfl, rfl⟩ ⟨(Nat.le_of_ble_eq_true rfl), (Nat.le_of_ble_eq_true rfl)⟩ d_M_descent_31 (fun r14 σ13 hr14 h => ?_)
        refine v_iadd cx d_M_descent_34 ?_
        refine v_nm (fun x15 ex15 => ?_)
        replace h := h x15 ex15
        refine v_istore_n (lv' := [(0, .ref (ad 41)), (1, .int (zI r)), (2, .int (zI x15)), (3, .int (zI y2))]) cx d_M_descent_35 rfl (by decide) rfl rfl ?_
        refine v_iinc (lv' := [(0, .ref (ad 41)), (1, .int (zI r)), (2, .int (zI x15)), (3, .int (zI (y2 + 1)))]) cx 3 d_M_descent_36 rfl (by decide) rfl rfl ?_
        refine v_goto cx 4 d_M_descent_39 (by decide) ?_
        obtain ⟨hI2, hz17, hm2⟩ := h
        exact ih4 _ _ _ (Nat.lt_of_lt_of_le hm2 (Nat.le_of_lt_succ hmm4)) hI2 hz17 hr8
  exact L4 _ _ _ _ (Nat.lt_succ_self _) h0 ⟨by decide, by decide⟩ ⟨by decide, by decide⟩
theorem zto_M_road_57 {a : Int} (h0 : a ≠ 0) (h1 : a ≠ 1) (h2 : a ≠ 2) (h3 : a ≠ 3) (h4 : a ≠ 4) (h5 : a ≠ 5) (h6 : a ≠ 6) (h7 : a ≠ 7) (h8 : a ≠ 8) (h9 : a ≠ 9) (h10 : a ≠ 10) (h11 : a ≠ 11) (h12 : a ≠ 12) (h13 : a ≠ 13) : a < 0 ∨ 13 < a := by omega
def q_M_road (road : Int) (what : Int) (K : Int → zS → Prop) (σ : zS) : Prop :=
  q_M_isRoad road (fun r2 σ1 =>
    ∃ J39 : Int → zS → Prop, (∀ (w3 : Int) (σ4 : zS), J39 w3 σ4 → zR w3 → 
      ∀ σ5 : zS, σ5 = zU σ4 41 0 w3 → ((σ5 41 0) ≤ 0 →
        q_M_laysPath road (fun σ8 =>
          (what = 0 →
            q_M_many road (fun r11 σ10 =>
              K r11 σ10) σ8) ∧ (what = 1 →
            q_M_measure 1 (fun r14 σ13 =>
              K r14 σ13) σ8) ∧ (what = 2 →
            q_M_measure 2 (fun r17 σ16 =>
              K r17 σ16) σ8) ∧ (what = 3 →
            q_M_measure 0 (fun r20 σ19 =>
              K r20 σ19) σ8) ∧ (what = 4 →
            q_M_hairpins road (fun r23 σ22 =>
              K r23 σ22) σ8) ∧ (what = 5 →
            q_M_brokenStep road (fun r26 σ25 =>
              K r26 σ25) σ8) ∧ (what = 6 →
            q_M_brokenBend road (fun r29 σ28 =>
              K r29 σ28) σ8) ∧ (what = 7 →
            q_M_steepest road (fun r32 σ31 =>
              K r32 σ31) σ8) ∧ (what = 8 →
            q_M_earthNow road (fun r35 σ34 =>
              K r35 σ34) σ8) ∧ (what = 9 →
            q_M_offsets road (fun r38 σ37 =>
              K r38 σ37) σ8) ∧ (what = 10 →
            q_M_ruling road (fun r41 σ40 =>
              K r41 σ40) σ8) ∧ (what = 11 →
            q_M_highest road 1 (fun r44 σ43 =>
              K r44 σ43) σ8) ∧ (what = 12 →
            q_M_highest road 0 (fun r47 σ46 =>
              K r47 σ46) σ8) ∧ (what = 13 →
            q_M_straight road (fun r50 σ49 =>
              K r50 σ49) σ8) ∧ (what ≠ 0 ∧ what ≠ 1 ∧ what ≠ 2 ∧ what ≠ 3 ∧ what ≠ 4 ∧ what ≠ 5 ∧ what ≠ 6 ∧ what ≠ 7 ∧ what ≠ 8 ∧ what ≠ 9 ∧ what ≠ 10 ∧ what ≠ 11 ∧ what ≠ 12 ∧ what ≠ 13 →
            q_M_descent road (fun r52 σ51 =>
              K r52 σ51) σ8)) σ5) ∧ (0 < (σ5 41 0) →
        K 0 σ5)) ∧
    ((r2 ≠ 0 →
        q_M_isIn what 0 14 (fun r55 σ54 =>
          (r55 ≠ 0 →
            q_M_many road (fun r58 σ57 =>
              (r58 ≠ 0 →
                J39 0 σ57) ∧ (r58 = 0 →
                J39 3 σ57)) σ54) ∧ (r55 = 0 →
            J39 2 σ54)) σ1) ∧ (r2 = 0 →
        J39 1 σ1))) σ
abbrev rm_M_road : Room := { frames := 7, cells := 0, slots := 0, locals := 170 }
set_option maxRecDepth 20000 in
set_option maxHeartbeats 4000000 in
theorem s_M_road {Ω : zO} {ad : Nat → Nat} {road : Int} {what : Int} {K : Int → zS → Prop} {σ : zS} (hroad : zR road) (hwhat : zR what) (h : q_M_road road what K σ) : zMi Ω y_M_road (.code y_M_road c_M_road 3 (some .int)) rm_M_road zLy ad [.ref (ad 41), .int (zI road), .int (zI what)] σ K := by
  refine z_ofi (lv := [(0, .ref (ad 41)), (1, .int (zI road)), (2, .int (zI what))]) (by decide) rfl (Nat.le_of_ble_eq_true rfl) ?_
  intro Γ Q cx rt
  unfold q_M_road at h
  refine v_aload_n cx 0 d_M_road_0 rfl rfl ?_
  refine v_iload_n cx 1 d_M_road_1 rfl rfl ?_
  refine v_callSz0 (st := [.ref (ad 41)]) cx (s_M_isRoad hroad h) yk_M_isRoad lk_M_209 rfl rfl (Nat.le_of_ble_eq_true rfl) ⟨Nat.le_of_ble_eq_true rfl, Nat.le_of_ble_eq_true rfl⟩ ⟨rfl, rfl⟩ ⟨(Nat.le_of_ble_eq_true rfl), (Nat.le_of_ble_eq_true rfl)⟩ d_M_road_2 (fun r2 σ1 hr2 h => ?_)
  obtain ⟨J39, hJ39, h⟩ := h
  have G39 : ∀ (w3 : Int) (σ4 : zS), J39 w3 σ4 → zR w3 → zV Ω Γ rm_M_road 3 Q 0 0 zLy ad σ4 39 [(0, .ref (ad 41)), (1, .int (zI road)), (2, .int (zI what))] [.int (zI w3), .ref (ad 41)] := by
    intro w3 σ4 hJ hw3
    replace h := hJ39 w3 σ4 hJ hw3
    refine pf_M_87 cx hw3 d_M_road_39 ?_
    refine v_ns (fun σ5 eσ5 => ?_)
    replace h := h σ5 eσ5
    refine v_aload_n cx 0 d_M_road_42 rfl rfl ?_
    refine gf_M_87 cx d_M_road_43 (fun hl6 => ?_)
    refine v_if_le cx 51 d_M_road_46 (by decide) hl6 (fun c7 => ?_) (fun c7 => ?_)
    · replace h := h.1 c7
      refine v_aload_n cx 0 d_M_road_51 rfl rfl ?_
      refine v_iload_n cx 1 d_M_road_52 rfl rfl ?_
      refine v_callVv0 (st := []) cx (s_M_laysPath hroad h) yk_M_laysPath lk_M_365 zl_41 rfl rfl rfl (Nat.le_of_ble_eq_true rfl) ⟨Nat.le_of_ble_eq_true rfl, Nat.le_of_ble_eq_true rfl⟩ ⟨rfl, rfl⟩ ⟨(Nat.le_of_ble_eq_true rfl), (Nat.le_of_ble_eq_true rfl)⟩ d_M_road_53 (fun σ8 h => ?_)
      refine v_iload_n cx 2 d_M_road_56 rfl rfl ?_
      by_cases c9 : what = 0
      · replace h := h.1 c9
        refine v_tableIn cx 128 d_M_road_57 hwhat (by rw [c9]; decide) (by rw [c9]; decide) (by rw [c9]; rfl) (by decide) ?_
        refine v_aload_n cx 0 d_M_road_128 rfl rfl ?_
        refine v_iload_n cx 1 d_M_road_129 rfl rfl ?_
        refine v_callVi0 (st := []) cx (s_M_many hroad h) yk_M_many lk_M_129 zl_41 rfl rfl rfl (Nat.le_of_ble_eq_true rfl) ⟨Nat.le_of_ble_eq_true rfl, Nat.le_of_ble_eq_true rfl⟩ ⟨rfl, rfl⟩ ⟨(Nat.le_of_ble_eq_true rfl), (Nat.le_of_ble_eq_true rfl)⟩ d_M_road_130 (fun r11 σ10 hr11 h => ?_)
        exact rt _ _ _ _ _ _ (Nat.le_of_ble_eq_true rfl) (Nat.le_of_ble_eq_true rfl) d_M_road_133 hr11 h
      replace h := h.2
      by_cases c12 : what = 1
      · replace h := h.1 c12
        refine v_tableIn cx 134 d_M_road_57 hwhat (by rw [c12]; decide) (by rw [c12]; decide) (by rw [c12]; rfl) (by decide) ?_
        refine v_aload_n cx 0 d_M_road_134 rfl rfl ?_
        refine v_iconst cx d_M_road_135 ?_
        refine v_callVi0 (st := []) cx (s_M_measure ⟨by decide, by decide⟩ h) yk_M_measure lk_M_305 zl_41 rfl rfl rfl (Nat.le_of_ble_eq_true rfl) ⟨Nat.le_of_ble_eq_true rfl, Nat.le_of_ble_eq_true rfl⟩ ⟨rfl, rfl⟩ ⟨(Nat.le_of_ble_eq_true rfl), (Nat.le_of_ble_eq_true rfl)⟩ d_M_road_136 (fun r14 σ13 hr14 h => ?_)
        exact rt _ _ _ _ _ _ (Nat.le_of_ble_eq_true rfl) (Nat.le_of_ble_eq_true rfl) d_M_road_139 hr14 h
      replace h := h.2
      by_cases c15 : what = 2
      · replace h := h.1 c15
        refine v_tableIn cx 140 d_M_road_57 hwhat (by rw [c15]; decide) (by rw [c15]; decide) (by rw [c15]; rfl) (by decide) ?_
        refine v_aload_n cx 0 d_M_road_140 rfl rfl ?_
        refine v_iconst cx d_M_road_141 ?_
        refine v_callVi0 (st := []) cx (s_M_measure ⟨by decide, by decide⟩ h) yk_M_measure lk_M_305 zl_41 rfl rfl rfl (Nat.le_of_ble_eq_true rfl) ⟨Nat.le_of_ble_eq_true rfl, Nat.le_of_ble_eq_true rfl⟩ ⟨rfl, rfl⟩ ⟨(Nat.le_of_ble_eq_true rfl), (Nat.le_of_ble_eq_true rfl)⟩ d_M_road_142 (fun r17 σ16 hr17 h => ?_)
        exact rt _ _ _ _ _ _ (Nat.le_of_ble_eq_true rfl) (Nat.le_of_ble_eq_true rfl) d_M_road_145 hr17 h
      replace h := h.2
      by_cases c18 : what = 3
      · replace h := h.1 c18
        refine v_tableIn cx 146 d_M_road_57 hwhat (by rw [c18]; decide) (by rw [c18]; decide) (by rw [c18]; rfl) (by decide) ?_
        refine v_aload_n cx 0 d_M_road_146 rfl rfl ?_
        refine v_iconst cx d_M_road_147 ?_
        refine v_callVi0 (st := []) cx (s_M_measure ⟨by decide, by decide⟩ h) yk_M_measure lk_M_305 zl_41 rfl rfl rfl (Nat.le_of_ble_eq_true rfl) ⟨Nat.le_of_ble_eq_true rfl, Nat.le_of_ble_eq_true rfl⟩ ⟨rfl, rfl⟩ ⟨(Nat.le_of_ble_eq_true rfl), (Nat.le_of_ble_eq_true rfl)⟩ d_M_road_148 (fun r20 σ19 hr20 h => ?_)
        exact rt _ _ _ _ _ _ (Nat.le_of_ble_eq_true rfl) (Nat.le_of_ble_eq_true rfl) d_M_road_151 hr20 h
      replace h := h.2
      by_cases c21 : what = 4
      · replace h := h.1 c21
        refine v_tableIn cx 152 d_M_road_57 hwhat (by rw [c21]; decide) (by rw [c21]; decide) (by rw [c21]; rfl) (by decide) ?_
        refine v_aload_n cx 0 d_M_road_152 rfl rfl ?_
        refine v_iload_n cx 1 d_M_road_153 rfl rfl ?_
        refine v_callVi0 (st := []) cx (s_M_hairpins hroad h) yk_M_hairpins lk_M_368 zl_41 rfl rfl rfl (Nat.le_of_ble_eq_true rfl) ⟨Nat.le_of_ble_eq_true rfl, Nat.le_of_ble_eq_true rfl⟩ ⟨rfl, rfl⟩ ⟨(Nat.le_of_ble_eq_true rfl), (Nat.le_of_ble_eq_true rfl)⟩ d_M_road_154 (fun r23 σ22 hr23 h => ?_)
        exact rt _ _ _ _ _ _ (Nat.le_of_ble_eq_true rfl) (Nat.le_of_ble_eq_true rfl) d_M_road_157 hr23 h
      replace h := h.2
      by_cases c24 : what = 5
      · replace h := h.1 c24
        refine v_tableIn cx 158 d_M_road_57 hwhat (by rw [c24]; decide) (by rw [c24]; decide) (by rw [c24]; rfl) (by decide) ?_
        refine v_aload_n cx 0 d_M_road_158 rfl rfl ?_
        refine v_iload_n cx 1 d_M_road_159 rfl rfl ?_
        refine v_callVi0 (st := []) cx (s_M_brokenStep hroad h) yk_M_brokenStep lk_M_371 zl_41 rfl rfl rfl (Nat.le_of_ble_eq_true rfl) ⟨Nat.le_of_ble_eq_true rfl, Nat.le_of_ble_eq_true rfl⟩ ⟨rfl, rfl⟩ ⟨(Nat.le_of_ble_eq_true rfl), (Nat.le_of_ble_eq_true rfl)⟩ d_M_road_160 (fun r26 σ25 hr26 h => ?_)
        exact rt _ _ _ _ _ _ (Nat.le_of_ble_eq_true rfl) (Nat.le_of_ble_eq_true rfl) d_M_road_163 hr26 h
      replace h := h.2
      by_cases c27 : what = 6
      · replace h := h.1 c27
        refine v_tableIn cx 164 d_M_road_57 hwhat (by rw [c27]; decide) (by rw [c27]; decide) (by rw [c27]; rfl) (by decide) ?_
        refine v_aload_n cx 0 d_M_road_164 rfl rfl ?_
        refine v_iload_n cx 1 d_M_road_165 rfl rfl ?_
        refine v_callVi0 (st := []) cx (s_M_brokenBend hroad h) yk_M_brokenBend lk_M_374 zl_41 rfl rfl rfl (Nat.le_of_ble_eq_true rfl) ⟨Nat.le_of_ble_eq_true rfl, Nat.le_of_ble_eq_true rfl⟩ ⟨rfl, rfl⟩ ⟨(Nat.le_of_ble_eq_true rfl), (Nat.le_of_ble_eq_true rfl)⟩ d_M_road_166 (fun r29 σ28 hr29 h => ?_)
        exact rt _ _ _ _ _ _ (Nat.le_of_ble_eq_true rfl) (Nat.le_of_ble_eq_true rfl) d_M_road_169 hr29 h
      replace h := h.2
      by_cases c30 : what = 7
      · replace h := h.1 c30
        refine v_tableIn cx 170 d_M_road_57 hwhat (by rw [c30]; decide) (by rw [c30]; decide) (by rw [c30]; rfl) (by decide) ?_
        refine v_aload_n cx 0 d_M_road_170 rfl rfl ?_
        refine v_iload_n cx 1 d_M_road_171 rfl rfl ?_
        refine v_callVi0 (st := []) cx (s_M_steepest hroad h) yk_M_steepest lk_M_377 zl_41 rfl rfl rfl (Nat.le_of_ble_eq_true rfl) ⟨Nat.le_of_ble_eq_true rfl, Nat.le_of_ble_eq_true rfl⟩ ⟨rfl, rfl⟩ ⟨(Nat.le_of_ble_eq_true rfl), (Nat.le_of_ble_eq_true rfl)⟩ d_M_road_172 (fun r32 σ31 hr32 h => ?_)
        exact rt _ _ _ _ _ _ (Nat.le_of_ble_eq_true rfl) (Nat.le_of_ble_eq_true rfl) d_M_road_175 hr32 h
      replace h := h.2
      by_cases c33 : what = 8
      · replace h := h.1 c33
        refine v_tableIn cx 176 d_M_road_57 hwhat (by rw [c33]; decide) (by rw [c33]; decide) (by rw [c33]; rfl) (by decide) ?_
        refine v_aload_n cx 0 d_M_road_176 rfl rfl ?_
        refine v_iload_n cx 1 d_M_road_177 rfl rfl ?_
        refine v_callVi0 (st := []) cx (s_M_earthNow hroad h) yk_M_earthNow lk_M_380 zl_41 rfl rfl rfl (Nat.le_of_ble_eq_true rfl) ⟨Nat.le_of_ble_eq_true rfl, Nat.le_of_ble_eq_true rfl⟩ ⟨rfl, rfl⟩ ⟨(Nat.le_of_ble_eq_true rfl), (Nat.le_of_ble_eq_true rfl)⟩ d_M_road_178 (fun r35 σ34 hr35 h => ?_)
        exact rt _ _ _ _ _ _ (Nat.le_of_ble_eq_true rfl) (Nat.le_of_ble_eq_true rfl) d_M_road_181 hr35 h
      replace h := h.2
      by_cases c36 : what = 9
      · replace h := h.1 c36
        refine v_tableIn cx 182 d_M_road_57 hwhat (by rw [c36]; decide) (by rw [c36]; decide) (by rw [c36]; rfl) (by decide) ?_
        refine v_aload_n cx 0 d_M_road_182 rfl rfl ?_
        refine v_iload_n cx 1 d_M_road_183 rfl rfl ?_
        refine v_callVi0 (st := []) cx (s_M_offsets hroad h) yk_M_offsets lk_M_383 zl_41 rfl rfl rfl (Nat.le_of_ble_eq_true rfl) ⟨Nat.le_of_ble_eq_true rfl, Nat.le_of_ble_eq_true rfl⟩ ⟨rfl, rfl⟩ ⟨(Nat.le_of_ble_eq_true rfl), (Nat.le_of_ble_eq_true rfl)⟩ d_M_road_184 (fun r38 σ37 hr38 h => ?_)
        exact rt _ _ _ _ _ _ (Nat.le_of_ble_eq_true rfl) (Nat.le_of_ble_eq_true rfl) d_M_road_187 hr38 h
      replace h := h.2
      by_cases c39 : what = 10
      · replace h := h.1 c39
        refine v_tableIn cx 188 d_M_road_57 hwhat (by rw [c39]; decide) (by rw [c39]; decide) (by rw [c39]; rfl) (by decide) ?_
        refine v_aload_n cx 0 d_M_road_188 rfl rfl ?_
        refine v_iload_n cx 1 d_M_road_189 rfl rfl ?_
        refine v_callVi0 (st := []) cx (s_M_ruling hroad h) yk_M_ruling lk_M_386 zl_41 rfl rfl rfl (Nat.le_of_ble_eq_true rfl) ⟨Nat.le_of_ble_eq_true rfl, Nat.le_of_ble_eq_true rfl⟩ ⟨rfl, rfl⟩ ⟨(Nat.le_of_ble_eq_true rfl), (Nat.le_of_ble_eq_true rfl)⟩ d_M_road_190 (fun r41 σ40 hr41 h => ?_)
        exact rt _ _ _ _ _ _ (Nat.le_of_ble_eq_true rfl) (Nat.le_of_ble_eq_true rfl) d_M_road_193 hr41 h
      replace h := h.2
      by_cases c42 : what = 11
      · replace h := h.1 c42
        refine v_tableIn cx 194 d_M_road_57 hwhat (by rw [c42]; decide) (by rw [c42]; decide) (by rw [c42]; rfl) (by decide) ?_
        refine v_aload_n cx 0 d_M_road_194 rfl rfl ?_
        refine v_iload_n cx 1 d_M_road_195 rfl rfl ?_
        refine v_iconst cx d_M_road_196 ?_
        refine v_callVi0 (st := []) cx (s_M_highest hroad (Or.inr rfl) h) yk_M_highest lk_M_389 zl_41 rfl rfl rfl (Nat.le_of_ble_eq_true rfl) ⟨Nat.le_of_ble_eq_true rfl, Nat.le_of_ble_eq_true rfl⟩ ⟨rfl, rfl⟩ ⟨(Nat.le_of_ble_eq_true rfl), (Nat.le_of_ble_eq_true rfl)⟩ d_M_road_197 (fun r44 σ43 hr44 h => ?_)
        exact rt _ _ _ _ _ _ (Nat.le_of_ble_eq_true rfl) (Nat.le_of_ble_eq_true rfl) d_M_road_200 hr44 h
      replace h := h.2
      by_cases c45 : what = 12
      · replace h := h.1 c45
        refine v_tableIn cx 201 d_M_road_57 hwhat (by rw [c45]; decide) (by rw [c45]; decide) (by rw [c45]; rfl) (by decide) ?_
        refine v_aload_n cx 0 d_M_road_201 rfl rfl ?_
        refine v_iload_n cx 1 d_M_road_202 rfl rfl ?_
        refine v_iconst cx d_M_road_203 ?_
        refine v_callVi0 (st := []) cx (s_M_highest hroad (Or.inl rfl) h) yk_M_highest lk_M_389 zl_41 rfl rfl rfl (Nat.le_of_ble_eq_true rfl) ⟨Nat.le_of_ble_eq_true rfl, Nat.le_of_ble_eq_true rfl⟩ ⟨rfl, rfl⟩ ⟨(Nat.le_of_ble_eq_true rfl), (Nat.le_of_ble_eq_true rfl)⟩ d_M_road_204 (fun r47 σ46 hr47 h => ?_)
        exact rt _ _ _ _ _ _ (Nat.le_of_ble_eq_true rfl) (Nat.le_of_ble_eq_true rfl) d_M_road_207 hr47 h
      replace h := h.2
      by_cases c48 : what = 13
      · replace h := h.1 c48
        refine v_tableIn cx 208 d_M_road_57 hwhat (by rw [c48]; decide) (by rw [c48]; decide) (by rw [c48]; rfl) (by decide) ?_
        refine v_aload_n cx 0 d_M_road_208 rfl rfl ?_
        refine v_iload_n cx 1 d_M_road_209 rfl rfl ?_
        refine v_callVi0 (st := []) cx (s_M_straight hroad h) yk_M_straight lk_M_393 zl_41 rfl rfl rfl (Nat.le_of_ble_eq_true rfl) ⟨Nat.le_of_ble_eq_true rfl, Nat.le_of_ble_eq_true rfl⟩ ⟨rfl, rfl⟩ ⟨(Nat.le_of_ble_eq_true rfl), (Nat.le_of_ble_eq_true rfl)⟩ d_M_road_210 (fun r50 σ49 hr50 h => ?_)
        exact rt _ _ _ _ _ _ (Nat.le_of_ble_eq_true rfl) (Nat.le_of_ble_eq_true rfl) d_M_road_213 hr50 h
      replace h := h.2
      replace h := h ⟨c9, c12, c15, c18, c21, c24, c27, c30, c33, c36, c39, c42, c45, c48⟩
      refine v_tableOut cx 214 d_M_road_57 hwhat (zto_M_road_57 c9 c12 c15 c18 c21 c24 c27 c30 c33 c36 c39 c42 c45 c48) (by decide) ?_
      refine v_aload_n cx 0 d_M_road_214 rfl rfl ?_
      refine v_iload_n cx 1 d_M_road_215 rfl rfl ?_
      refine v_callVi0 (st := []) cx (s_M_descent hroad h) yk_M_descent lk_M_396 zl_41 rfl rfl rfl (Nat.le_of_ble_eq_true rfl) ⟨Nat.le_of_ble_eq_true rfl, Nat.le_of_ble_eq_true rfl⟩ ⟨rfl, rfl⟩ ⟨(Nat.le_of_ble_eq_true rfl), (Nat.le_of_ble_eq_true rfl)⟩ d_M_road_216 (fun r52 σ51 hr52 h => ?_)
      exact rt _ _ _ _ _ _ (Nat.le_of_ble_eq_true rfl) (Nat.le_of_ble_eq_true rfl) d_M_road_219 hr52 h
    · replace h := h.2 c7
      refine v_iconst cx d_M_road_49 ?_
      exact rt _ _ _ _ _ _ (Nat.le_of_ble_eq_true rfl) (Nat.le_of_ble_eq_true rfl) d_M_road_50 ⟨by decide, by decide⟩ h
  refine v_if_ne cx 12 d_M_road_5 (by decide) (zR_b hr2) (fun c53 => ?_) (fun c53 => ?_)
  · replace h := h.1 c53
    refine v_iload_n cx 2 d_M_road_12 rfl rfl ?_
    refine v_iconst cx d_M_road_13 ?_
    refine v_bipush cx (by decide) d_M_road_14 ?_
    refine v_callSz0 (st := [.ref (ad 41)]) cx (s_M_isIn hwhat ⟨by decide, by decide⟩ ⟨by decide, by decide⟩ h) yk_M_isIn lk_M_94 rfl rfl (Nat.le_of_ble_eq_true rfl) ⟨Nat.le_of_ble_eq_true rfl, Nat.le_of_ble_eq_true rfl⟩ ⟨rfl, rfl⟩ ⟨(Nat.le_of_ble_eq_true rfl), (Nat.le_of_ble_eq_true rfl)⟩ d_M_road_16 (fun r55 σ54 hr55 h => ?_)
    refine v_if_ne cx 26 d_M_road_19 (by decide) (zR_b hr55) (fun c56 => ?_) (fun c56 => ?_)
    · replace h := h.1 c56
      refine v_aload_n cx 0 d_M_road_26 rfl rfl ?_
      refine v_iload_n cx 1 d_M_road_27 rfl rfl ?_
      refine v_callVi0 (st := [.ref (ad 41)]) cx (s_M_many hroad h) yk_M_many lk_M_129 zl_41 rfl rfl rfl (Nat.le_of_ble_eq_true rfl) ⟨Nat.le_of_ble_eq_true rfl, Nat.le_of_ble_eq_true rfl⟩ ⟨rfl, rfl⟩ ⟨(Nat.le_of_ble_eq_true rfl), (Nat.le_of_ble_eq_true rfl)⟩ d_M_road_28 (fun r58 σ57 hr58 h => ?_)
      refine v_if_ne cx 38 d_M_road_31 (by decide) hr58 (fun c59 => ?_) (fun c59 => ?_)
      · replace h := h.1 c59
        refine v_iconst cx d_M_road_38 ?_
        have hJ2 := h
        exact G39 _ _ hJ2 ⟨by decide, by decide⟩
      · replace h := h.2 c59
        refine v_iconst cx d_M_road_34 ?_
        refine v_goto cx 39 d_M_road_35 (by decide) ?_
        have hJ2 := h
        exact G39 _ _ hJ2 ⟨by decide, by decide⟩
    · replace h := h.2 c56
      refine v_iconst cx d_M_road_22 ?_
      refine v_goto cx 39 d_M_road_23 (by decide) ?_
      have hJ2 := h
      exact G39 _ _ hJ2 ⟨by decide, by decide⟩
  · replace h := h.2 c53
    refine v_iconst cx d_M_road_8 ?_
    refine v_goto cx 39 d_M_road_9 (by decide) ?_
    have hJ2 := h
    exact G39 _ _ hJ2 ⟨by decide, by decide⟩
def q_M_at (road : Int) (k_ : Int) (offset : Int) (K : Int → zS → Prop) (σ : zS) : Prop :=
  q_M_isRoad road (fun r2 σ1 =>
    ∃ J25 : Int → zS → Prop, (∀ (w3 : Int) (σ4 : zS), J25 w3 σ4 → zR w3 → 
      ∀ σ5 : zS, σ5 = zU σ4 41 0 w3 → ((σ5 41 0) ≤ 0 →
        q_M_many road (fun r9 σ8 =>
          zR (r9 - 1) ∧ (q_M_isIn k_ 0 (r9 - 1) (fun r12 σ11 =>
              (offset = 0 →
                (r12 = 0 →
                  K (-1) σ11) ∧ (r12 ≠ 0 →
                  q_M_placeAt road k_ (fun r16 σ15 =>
                    K r16 σ15) σ11)) ∧ (offset ≠ 0 →
                (r12 = 0 →
                  K 100 σ11) ∧ (r12 ≠ 0 →
                  q_M_offsetAt road k_ (fun r19 σ18 =>
                    K r19 σ18) σ11))) σ8)) σ5) ∧ (0 < (σ5 41 0) →
        K 0 σ5)) ∧
    ((r2 ≠ 0 →
        q_M_many road (fun r22 σ21 =>
          (r22 ≠ 0 →
            J25 0 σ21) ∧ (r22 = 0 →
            J25 2 σ21)) σ1) ∧ (r2 = 0 →
        J25 1 σ1))) σ
abbrev rm_M_at : Room := { frames := 2, cells := 0, slots := 0, locals := 42 }
set_option maxRecDepth 20000 in
set_option maxHeartbeats 4000000 in
theorem s_M_at {Ω : zO} {ad : Nat → Nat} {road : Int} {k_ : Int} {offset : Int} {K : Int → zS → Prop} {σ : zS} (hroad : zR road) (hk_ : zR k_) (hoffset : offset = 0 ∨ offset = 1) (h : q_M_at road k_ offset K σ) : zMi Ω y_M_at (.code y_M_at c_M_at 5 (some .int)) rm_M_at zLy ad [.ref (ad 41), .int (zI road), .int (zI k_), .int (zI offset)] σ K := by
  refine z_ofi (lv := [(0, .ref (ad 41)), (1, .int (zI road)), (2, .int (zI k_)), (3, .int (zI offset))]) (by decide) rfl (Nat.le_of_ble_eq_true rfl) ?_
  intro Γ Q cx rt
  unfold q_M_at at h
  refine v_aload_n cx 0 d_M_at_0 rfl rfl ?_
  refine v_iload_n cx 1 d_M_at_1 rfl rfl ?_
  refine v_callSz0 (st := [.ref (ad 41)]) cx (s_M_isRoad hroad h) yk_M_isRoad lk_M_209 rfl rfl (Nat.le_of_ble_eq_true rfl) ⟨Nat.le_of_ble_eq_true rfl, Nat.le_of_ble_eq_true rfl⟩ ⟨rfl, rfl⟩ ⟨(Nat.le_of_ble_eq_true rfl), (Nat.le_of_ble_eq_true rfl)⟩ d_M_at_2 (fun r2 σ1 hr2 h => ?_)
  obtain ⟨J25, hJ25, h⟩ := h
  have G25 : ∀ (w3 : Int) (σ4 : zS), J25 w3 σ4 → zR w3 → zV Ω Γ rm_M_at 5 Q 0 0 zLy ad σ4 25 [(0, .ref (ad 41)), (1, .int (zI road)), (2, .int (zI k_)), (3, .int (zI offset))] [.int (zI w3), .ref (ad 41)] := by
    intro w3 σ4 hJ hw3
    replace h := hJ25 w3 σ4 hJ hw3
    refine pf_M_87 cx hw3 d_M_at_25 ?_
    refine v_ns (fun σ5 eσ5 => ?_)
    replace h := h σ5 eσ5
    refine v_aload_n cx 0 d_M_at_28 rfl rfl ?_
    refine gf_M_87 cx d_M_at_29 (fun hl6 => ?_)
    refine v_if_le cx 37 d_M_at_32 (by decide) hl6 (fun c7 => ?_) (fun c7 => ?_)
    · replace h := h.1 c7
      refine v_iload_n cx 2 d_M_at_37 rfl rfl ?_
      refine v_iconst cx d_M_at_38 ?_
      refine v_aload_n cx 0 d_M_at_39 rfl rfl ?_
      refine v_iload_n cx 1 d_M_at_40 rfl rfl ?_
      refine v_callVi0 (st := [.int (zI 0), .int (zI k_)]) cx (s_M_many hroad h) yk_M_many lk_M_129 zl_41 rfl rfl rfl (Nat.le_of_ble_eq_true rfl) ⟨Nat.le_of_ble_eq_true rfl, Nat.le_of_ble_eq_true rfl⟩ ⟨rfl, rfl⟩ ⟨(Nat.le_of_ble_eq_true rfl), (Nat.le_of_ble_eq_true rfl)⟩ d_M_at_41 (fun r9 σ8 hr9 h => ?_)
      refine v_iconst cx d_M_at_44 ?_
      refine v_isub cx d_M_at_45 ?_
      obtain ⟨hr10, h⟩ := h
      refine v_callSz0 (st := []) cx (s_M_isIn hk_ ⟨by decide, by decide⟩ hr10 h) yk_M_isIn lk_M_94 rfl rfl (Nat.le_of_ble_eq_true rfl) ⟨Nat.le_of_ble_eq_true rfl, Nat.le_of_ble_eq_true rfl⟩ ⟨rfl, rfl⟩ ⟨(Nat.le_of_ble_eq_true rfl), (Nat.le_of_ble_eq_true rfl)⟩ d_M_at_46 (fun r12 σ11 hr12 h => ?_)
      refine v_istore (lv' := [(0, .ref (ad 41)), (1, .int (zI road)), (2, .int (zI k_)), (3, .int (zI offset)), (4, .int (zI r12))]) cx d_M_at_49 (by decide) rfl rfl ?_
      refine v_iload_n cx 3 d_M_at_51 rfl rfl ?_
      refine v_if_eq cx 72 d_M_at_52 (by decide) (zR_b hoffset) (fun c13 => ?_) (fun c13 => ?_)
      · replace h := h.1 c13
        refine v_iload cx 4 d_M_at_72 rfl ?_
        refine v_if_eq cx 86 d_M_at_74 (by decide) (zR_b hr12) (fun c14 => ?_) (fun c14 => ?_)
        · replace h := h.1 c14
          refine v_iconst cx d_M_at_86 ?_
          exact rt _ _ _ _ _ _ (Nat.le_of_ble_eq_true rfl) (Nat.le_of_ble_eq_true rfl) d_M_at_87 ⟨by decide, by decide⟩ h
        · replace h := h.2 c14
          refine v_aload_n cx 0 d_M_at_77 rfl rfl ?_
          refine v_iload_n cx 1 d_M_at_78 rfl rfl ?_
          refine v_iload_n cx 2 d_M_at_79 rfl rfl ?_
          refine v_callVi0 (st := []) cx (s_M_placeAt hroad hk_ h) yk_M_placeAt lk_M_212 zl_41 rfl rfl rfl (Nat.le_of_ble_eq_true rfl) ⟨Nat.le_of_ble_eq_true rfl, Nat.le_of_ble_eq_true rfl⟩ ⟨rfl, rfl⟩ ⟨(Nat.le_of_ble_eq_true rfl), (Nat.le_of_ble_eq_true rfl)⟩ d_M_at_80 (fun r16 σ15 hr16 h => ?_)
          refine v_goto cx 87 d_M_at_83 (by decide) ?_
          exact rt _ _ _ _ _ _ (Nat.le_of_ble_eq_true rfl) (Nat.le_of_ble_eq_true rfl) d_M_at_87 hr16 h
      · replace h := h.2 c13
        refine v_iload cx 4 d_M_at_55 rfl ?_
        refine v_if_eq cx 69 d_M_at_57 (by decide) (zR_b hr12) (fun c17 => ?_) (fun c17 => ?_)
        · replace h := h.1 c17
          refine v_bipush cx (by decide) d_M_at_69 ?_
          exact rt _ _ _ _ _ _ (Nat.le_of_ble_eq_true rfl) (Nat.le_of_ble_eq_true rfl) d_M_at_71 ⟨by decide, by decide⟩ h
        · replace h := h.2 c17
          refine v_aload_n cx 0 d_M_at_60 rfl rfl ?_
          refine v_iload_n cx 1 d_M_at_61 rfl rfl ?_
          refine v_iload_n cx 2 d_M_at_62 rfl rfl ?_
          refine v_callVi0 (st := []) cx (s_M_offsetAt hroad hk_ h) yk_M_offsetAt lk_M_362 zl_41 rfl rfl rfl (Nat.le_of_ble_eq_true rfl) ⟨Nat.le_of_ble_eq_true rfl, Nat.le_of_ble_eq_true rfl⟩ ⟨rfl, rfl⟩ ⟨(Nat.le_of_ble_eq_true rfl), (Nat.le_of_ble_eq_true rfl)⟩ d_M_at_63 (fun r19 σ18 hr19 h => ?_)
          refine v_goto cx 71 d_M_at_66 (by decide) ?_
          exact rt _ _ _ _ _ _ (Nat.le_of_ble_eq_true rfl) (Nat.le_of_ble_eq_true rfl) d_M_at_71 hr19 h
    · replace h := h.2 c7
      refine v_iconst cx d_M_at_35 ?_
      exact rt _ _ _ _ _ _ (Nat.le_of_ble_eq_true rfl) (Nat.le_of_ble_eq_true rfl) d_M_at_36 ⟨by decide, by decide⟩ h
  refine v_if_ne cx 12 d_M_at_5 (by decide) (zR_b hr2) (fun c20 => ?_) (fun c20 => ?_)
  · replace h := h.1 c20
    refine v_aload_n cx 0 d_M_at_12 rfl rfl ?_
    refine v_iload_n cx 1 d_M_at_13 rfl rfl ?_
    refine v_callVi0 (st := [.ref (ad 41)]) cx (s_M_many hroad h) yk_M_many lk_M_129 zl_41 rfl rfl rfl (Nat.le_of_ble_eq_true rfl) ⟨Nat.le_of_ble_eq_true rfl, Nat.le_of_ble_eq_true rfl⟩ ⟨rfl, rfl⟩ ⟨(Nat.le_of_ble_eq_true rfl), (Nat.le_of_ble_eq_true rfl)⟩ d_M_at_14 (fun r22 σ21 hr22 h => ?_)
    refine v_if_ne cx 24 d_M_at_17 (by decide) hr22 (fun c23 => ?_) (fun c23 => ?_)
    · replace h := h.1 c23
      refine v_iconst cx d_M_at_24 ?_
      have hJ2 := h
      exact G25 _ _ hJ2 ⟨by decide, by decide⟩
    · replace h := h.2 c23
      refine v_iconst cx d_M_at_20 ?_
      refine v_goto cx 25 d_M_at_21 (by decide) ?_
      have hJ2 := h
      exact G25 _ _ hJ2 ⟨by decide, by decide⟩
  · replace h := h.2 c20
    refine v_iconst cx d_M_at_8 ?_
    refine v_goto cx 25 d_M_at_9 (by decide) ?_
    have hJ2 := h
    exact G25 _ _ hJ2 ⟨by decide, by decide⟩
def q_M_common (road : Int) (other : Int) (K : Int → zS → Prop) (σ : zS) : Prop :=
  q_M_isRoad road (fun r2 σ1 =>
    ∃ J49 : Int → zS → Prop, (∀ (w3 : Int) (σ4 : zS), J49 w3 σ4 → zR w3 → 
      ∀ σ5 : zS, σ5 = zU σ4 41 0 w3 → ((σ5 41 0) ≤ 0 →
        ∃ (I66 : Int → Int → zS → Prop) (μ66 : Int → Int → zS → Nat), (I66 0 0 σ5) ∧ ∀ (y8 y9 : Int) (σ10 : zS), I66 y8 y9 σ10 → zR y8 → zR y9 → 
        q_M_many road (fun r12 σ11 =>
          zR (r12 - 1) ∧ (((r12 - 1) ≤ y9 →
              K y8 σ11) ∧ (y9 < (r12 - 1) →
              q_M_placeAt road y9 (fun r16 σ15 =>
                zR (y9 + 1) ∧ (q_M_placeAt road (y9 + 1) (fun r19 σ18 =>
                    q_M_hasStep road y9 r16 r19 (fun r21 σ20 =>
                      (r21 ≠ 0 →
                        ∀ x23 : Int, x23 = y8 + 0 → I66 x23 (y9 + 1) σ20 ∧ zR x23 ∧ μ66 x23 (y9 + 1) σ20 < μ66 y8 y9 σ10) ∧ (r21 = 0 →
                        q_M_many other (fun r27 σ26 =>
                          zR (r27 - 1) ∧ (q_M_hasStep other (r27 - 1) r16 r19 (fun r30 σ29 =>
                              (r30 = 0 →
                                ∀ x32 : Int, x32 = y8 + 0 → I66 x32 (y9 + 1) σ29 ∧ zR x32 ∧ μ66 x32 (y9 + 1) σ29 < μ66 y8 y9 σ10) ∧ (r30 ≠ 0 →
                                ∀ x35 : Int, x35 = y8 + 1 → I66 x35 (y9 + 1) σ29 ∧ zR x35 ∧ μ66 x35 (y9 + 1) σ29 < μ66 y8 y9 σ10)) σ26)) σ20)) σ18) σ15)) σ11))) σ10) ∧ (0 < (σ5 41 0) →
        K 0 σ5)) ∧
    (∃ J15 : zS → Prop, (∀ (σ38 : zS), J15 σ38 → 
        J49 1 σ38) ∧
      ((r2 = 0 →
          J15 σ1) ∧ (r2 ≠ 0 →
          q_M_isRoad other (fun r41 σ40 =>
            (r41 ≠ 0 →
              (road ≠ other →
                q_M_many road (fun r45 σ44 =>
                  ∃ J44 : zS → Prop, (∀ (σ46 : zS), J44 σ46 → 
                    J49 3 σ46) ∧
                  ((r45 = 0 →
                      J44 σ44) ∧ (r45 ≠ 0 →
                      q_M_many other (fun r49 σ48 =>
                        (r49 ≠ 0 →
                          J49 0 σ48) ∧ (r49 = 0 →
                          J44 σ48)) σ44))) σ40) ∧ (road = other →
                J49 2 σ40)) ∧ (r41 = 0 →
              J15 σ40)) σ1)))) σ
abbrev rm_M_common : Room := { frames := 2, cells := 0, slots := 0, locals := 49 }
set_option maxRecDepth 20000 in
set_option maxHeartbeats 4000000 in
theorem s_M_common {Ω : zO} {ad : Nat → Nat} {road : Int} {other : Int} {K : Int → zS → Prop} {σ : zS} (hroad : zR road) (hother : zR other) (h : q_M_common road other K σ) : zMi Ω y_M_common (.code y_M_common c_M_common 7 (some .int)) rm_M_common zLy ad [.ref (ad 41), .int (zI road), .int (zI other)] σ K := by
  refine z_ofi (lv := [(0, .ref (ad 41)), (1, .int (zI road)), (2, .int (zI other))]) (by decide) rfl (Nat.le_of_ble_eq_true rfl) ?_
  intro Γ Q cx rt
  unfold q_M_common at h
  refine v_aload_n cx 0 d_M_common_0 rfl rfl ?_
  refine v_iload_n cx 1 d_M_common_1 rfl rfl ?_
  refine v_callSz0 (st := [.ref (ad 41)]) cx (s_M_isRoad hroad h) yk_M_isRoad lk_M_209 rfl rfl (Nat.le_of_ble_eq_true rfl) ⟨Nat.le_of_ble_eq_true rfl, Nat.le_of_ble_eq_true rfl⟩ ⟨rfl, rfl⟩ ⟨(Nat.le_of_ble_eq_true rfl), (Nat.le_of_ble_eq_true rfl)⟩ d_M_common_2 (fun r2 σ1 hr2 h => ?_)
  obtain ⟨J49, hJ49, h⟩ := h
  have G49 : ∀ (w3 : Int) (σ4 : zS), J49 w3 σ4 → zR w3 → zV Ω Γ rm_M_common 7 Q 0 0 zLy ad σ4 49 [(0, .ref (ad 41)), (1, .int (zI road)), (2, .int (zI other))] [.int (zI w3), .ref (ad 41)] := by
    intro w3 σ4 hJ hw3
    replace h := hJ49 w3 σ4 hJ hw3
    refine pf_M_87 cx hw3 d_M_common_49 ?_
    refine v_ns (fun σ5 eσ5 => ?_)
    replace h := h σ5 eσ5
    refine v_aload_n cx 0 d_M_common_52 rfl rfl ?_
    refine gf_M_87 cx d_M_common_53 (fun hl6 => ?_)
    refine v_if_le cx 61 d_M_common_56 (by decide) hl6 (fun c7 => ?_) (fun c7 => ?_)
    · replace h := h.1 c7
      refine v_iconst cx d_M_common_61 ?_
      refine v_istore_n (lv' := [(0, .ref (ad 41)), (1, .int (zI road)), (2, .int (zI other)), (3, .int (zI 0))]) cx d_M_common_62 rfl (by decide) rfl rfl ?_
      refine v_iconst cx d_M_common_63 ?_
      refine v_istore (lv' := [(0, .ref (ad 41)), (1, .int (zI road)), (2, .int (zI other)), (3, .int (zI 0)), (4, .int (zI 0))]) cx d_M_common_64 (by decide) rfl rfl ?_
      obtain ⟨I66, μ66, h0, h⟩ := h
      have L66 : ∀ (N66 : Nat) (y8 y9 : Int) (σ10 : zS), μ66 y8 y9 σ10 < N66 → I66 y8 y9 σ10 → zR y8 → zR y9 → zV Ω Γ rm_M_common 7 Q 0 0 zLy ad σ10 66 [(0, .ref (ad 41)), (1, .int (zI road)), (2, .int (zI other)), (3, .int (zI y8)), (4, .int (zI y9))] [] := by
        intro N66
        induction N66 with
        | zero => intro y8 y9 σ10 hm; exact absurd hm (Nat.not_lt_zero _)
        | succ N66 ih66 =>
          intro y8 y9 σ10 hmm66 hI hy8 hy9
          replace h := h y8 y9 σ10 hI hy8 hy9
          refine v_iload cx 4 d_M_common_66 rfl ?_
          refine v_aload_n cx 0 d_M_common_68 rfl rfl ?_
          refine v_iload_n cx 1 d_M_common_69 rfl rfl ?_
          refine v_callVi0 (st := [.int (zI y9)]) cx (s_M_many hroad h) yk_M_many lk_M_129 zl_41 rfl rfl rfl (Nat.le_of_ble_eq_true rfl) ⟨Nat.le_of_ble_eq_true rfl, Nat.le_of_ble_eq_true rfl⟩ ⟨rfl, rfl⟩ ⟨(Nat.le_of_ble_eq_true rfl), (Nat.le_of_ble_eq_true rfl)⟩ d_M_common_70 (fun r12 σ11 hr12 h => ?_)
          refine v_iconst cx d_M_common_73 ?_
          refine v_isub cx d_M_common_74 ?_
          obtain ⟨hr13, h⟩ := h
          refine v_icmp_ge cx 145 d_M_common_75 (by decide) hy9 hr13 (fun c14 => ?_) (fun c14 => ?_)
          · replace h := h.1 c14
            refine v_iload_n cx 3 d_M_common_145 rfl rfl ?_
            exact rt _ _ _ _ _ _ (Nat.le_of_ble_eq_true rfl) (Nat.le_of_ble_eq_true rfl) d_M_common_146 hy8 h
          · replace h := h.2 c14
            refine v_aload_n cx 0 d_M_common_78 rfl rfl ?_
            refine v_iload_n cx 1 d_M_common_79 rfl rfl ?_
            refine v_iload cx 4 d_M_common_80 rfl ?_
            refine v_callVi0 (st := []) cx (s_M_placeAt hroad hy9 h) yk_M_placeAt lk_M_212 zl_41 rfl rfl rfl (Nat.le_of_ble_eq_true rfl) ⟨Nat.le_of_ble_eq_true rfl, Nat.le_of_ble_eq_true rfl⟩ ⟨rfl, rfl⟩ ⟨(Nat.le_of_ble_eq_true rfl), (Nat.le_of_ble_eq_true rfl)⟩ d_M_common_82 (fun r16 σ15 hr16 h => ?_)
            refine v_istore (lv' := [(0, .ref (ad 41)), (1, .int (zI road)), (2, .int (zI other)), (3, .int (zI y8)), (4, .int (zI y9)), (5, .int (zI r16))]) cx d_M_common_85 (by decide) rfl rfl ?_
            refine v_aload_n cx 0 d_M_common_87 rfl rfl ?_
            refine v_iload_n cx 1 d_M_common_88 rfl rfl ?_
            refine v_iload cx 4 d_M_common_89 rfl ?_
            refine v_iconst cx d_M_common_91 ?_
            refine v_iadd cx d_M_common_92 ?_
            obtain ⟨hr17, h⟩ := h
            refine v_callVi0 (st := []) cx (s_M_placeAt hroad hr17 h) yk_M_placeAt lk_M_212 zl_41 rfl rfl rfl (Nat.le_of_ble_eq_true rfl) ⟨Nat.le_of_ble_eq_true rfl, Nat.le_of_ble_eq_true rfl⟩ ⟨rfl, rfl⟩ ⟨(Nat.le_of_ble_eq_true rfl), (Nat.le_of_ble_eq_true rfl)⟩ d_M_common_93 (fun r19 σ18 hr19 h => ?_)
            refine v_istore (lv' := [(0, .ref (ad 41)), (1, .int (zI road)), (2, .int (zI other)), (3, .int (zI y8)), (4, .int (zI y9)), (5, .int (zI r16)), (6, .int (zI r19))]) cx d_M_common_96 (by decide) rfl rfl ?_
            refine v_iload_n cx 3 d_M_common_98 rfl rfl ?_
            refine v_aload_n cx 0 d_M_common_99 rfl rfl ?_
            refine v_iload_n cx 1 d_M_common_100 rfl rfl ?_
            refine v_iload cx 4 d_M_common_101 rfl ?_
            refine v_iload cx 5 d_M_common_103 rfl ?_
            refine v_iload cx 6 d_M_common_105 rfl ?_
            refine v_callVz0 (st := [.int (zI y8)]) cx (s_M_hasStep hroad hy9 hr16 hr19 h) yk_M_hasStep lk_M_132 zl_41 rfl rfl rfl (Nat.le_of_ble_eq_true rfl) ⟨Nat.le_of_ble_eq_true rfl, Nat.le_of_ble_eq_true rfl⟩ ⟨rfl, rfl⟩ ⟨(Nat.le_of_ble_eq_true rfl), (Nat.le_of_ble_eq_true rfl)⟩ d_M_common_107 (fun r21 σ20 hr21 h => ?_)
            refine v_if_ne cx 136 d_M_common_110 (by decide) (zR_b hr21) (fun c22 => ?_) (fun c22 => ?_)
            · replace h := h.1 c22
              refine v_iconst cx d_M_common_136 ?_
              refine v_iadd cx d_M_common_137 ?_
              refine v_nm (fun x23 ex23 => ?_)
              replace h := h x23 ex23
              refine v_istore_n (lv' := [(0, .ref (ad 41)), (1, .int (zI road)), (2, .int (zI other)), (3, .int (zI x23)), (4, .int (zI y9)), (5, .int (zI r16)), (6, .int (zI r19))]) cx d_M_common_138 rfl (by decide) rfl rfl ?_
              refine v_iinc (lv' := [(0, .ref (ad 41)), (1, .int (zI road)), (2, .int (zI other)), (3, .int (zI x23)), (4, .int (zI (y9 + 1))), (5, .int (zI r16)), (6, .int (zI r19))]) cx 4 d_M_common_139 rfl (by decide) rfl rfl ?_
              refine v_goto cx 66 d_M_common_142 (by decide) ?_
              refine v_sb (lv' := [(0, .ref (ad 41)), (1, .int (zI road)), (2, .int (zI other)), (3, .int (zI x23)), (4, .int (zI (y9 + 1)))]) [0, 1, 2, 3, 4] rfl ?_
              obtain ⟨hI2, hz25, hm2⟩ := h
              exact ih66 _ _ _ (Nat.lt_of_lt_of_le hm2 (Nat.le_of_lt_succ hmm66)) hI2 hz25 hr17
            · replace h := h.2 c22
              refine v_aload_n cx 0 d_M_common_113 rfl rfl ?_
              refine v_iload_n cx 2 d_M_common_114 rfl rfl ?_
              refine v_aload_n cx 0 d_M_common_115 rfl rfl ?_
              refine v_iload_n cx 2 d_M_common_116 rfl rfl ?_
              refine v_callVi0 (st := [.int (zI other), .ref (ad 41), .int (zI y8)]) cx (s_M_many hother h) yk_M_many lk_M_129 zl_41 rfl rfl rfl (Nat.le_of_ble_eq_true rfl) ⟨Nat.le_of_ble_eq_true rfl, Nat.le_of_ble_eq_true rfl⟩ ⟨rfl, rfl⟩ ⟨(Nat.le_of_ble_eq_true rfl), (Nat.le_of_ble_eq_true rfl)⟩ d_M_common_117 (fun r27 σ26 hr27 h => ?_)
              refine v_iconst cx d_M_common_120 ?_
              refine v_isub cx d_M_common_121 ?_
              refine v_iload cx 5 d_M_common_122 rfl ?_
              refine v_iload cx 6 d_M_common_124 rfl ?_
              obtain ⟨hr28, h⟩ := h
              refine v_callVz0 (st := [.int (zI y8)]) cx (s_M_hasStep hother hr28 hr16 hr19 h) yk_M_hasStep lk_M_132 zl_41 rfl rfl rfl (Nat.le_of_ble_eq_true rfl) ⟨Nat.le_of_ble_eq_true rfl, Nat.le_of_ble_eq_true rfl⟩ ⟨rfl, rfl⟩ ⟨(Nat.le_of_ble_eq_true rfl), (Nat.le_of_ble_eq_true rfl)⟩ d_M_common_126 (fun r30 σ29 hr30 h => ?_)
              refine v_if_eq cx 136 d_M_common_129 (by decide) (zR_b hr30) (fun c31 => ?_) (fun c31 => ?_)
              · replace h := h.1 c31
                refine v_iconst cx d_M_common_136 ?_
                refine v_iadd cx d_M_common_137 ?_
                refine v_nm (fun x32 ex32 => ?_)
                replace h := h x32 ex32
                refine v_istore_n (lv' := [(0, .ref (ad 41)), (1, .int (zI road)), (2, .int (zI other)), (3, .int (zI x32)), (4, .int (zI y9)), (5, .int (zI r16)), (6, .int (zI r19))]) cx d_M_common_138 rfl (by decide) rfl rfl ?_
                refine v_iinc (lv' := [(0, .ref (ad 41)), (1, .int (zI road)), (2, .int (zI other)), (3, .int (zI x32)), (4, .int (zI (y9 + 1))), (5, .int (zI r16)), (6, .int (zI r19))]) cx 4 d_M_common_139 rfl (by decide) rfl rfl ?_
                refine v_goto cx 66 d_M_common_142 (by decide) ?_
                refine v_sb (lv' := [(0, .ref (ad 41)), (1, .int (zI road)), (2, .int (zI other)), (3, .int (zI x32)), (4, .int (zI (y9 + 1)))]) [0, 1, 2, 3, 4] rfl ?_
                obtain ⟨hI2, hz34, hm2⟩ := h
                exact ih66 _ _ _ (Nat.lt_of_lt_of_le hm2 (Nat.le_of_lt_succ hmm66)) hI2 hz34 hr17
              · replace h := h.2 c31
                refine v_iconst cx d_M_common_132 ?_
                refine v_goto cx 137 d_M_common_133 (by decide) ?_
                refine v_iadd cx d_M_common_137 ?_
                refine v_nm (fun x35 ex35 => ?_)
                replace h := h x35 ex35
                refine v_istore_n (lv' := [(0, .ref (ad 41)), (1, .int (zI road)), (2, .int (zI other)), (3, .int (zI x35)), (4, .int (zI y9)), (5, .int (zI r16)), (6, .int (zI r19))]) cx d_M_common_138 rfl (by decide) rfl rfl ?_
                refine v_iinc (lv' := [(0, .ref (ad 41)), (1, .int (zI road)), (2, .int (zI other)), (3, .int (zI x35)), (4, .int (zI (y9 + 1))), (5, .int (zI r16)), (6, .int (zI r19))]) cx 4 d_M_common_139 rfl (by decide) rfl rfl ?_
                refine v_goto cx 66 d_M_common_142 (by decide) ?_
                refine v_sb (lv' := [(0, .ref (ad 41)), (1, .int (zI road)), (2, .int (zI other)), (3, .int (zI x35)), (4, .int (zI (y9 + 1)))]) [0, 1, 2, 3, 4] rfl ?_
                obtain ⟨hI2, hz37, hm2⟩ := h
                exact ih66 _ _ _ (Nat.lt_of_lt_of_le hm2 (Nat.le_of_lt_succ hmm66)) hI2 hz37 hr17
      exact L66 _ _ _ _ (Nat.lt_succ_self _) h0 ⟨by decide, by decide⟩ ⟨by decide, by decide⟩
    · replace h := h.2 c7
      refine v_iconst cx d_M_common_59 ?_
      exact rt _ _ _ _ _ _ (Nat.le_of_ble_eq_true rfl) (Nat.le_of_ble_eq_true rfl) d_M_common_60 ⟨by decide, by decide⟩ h
  obtain ⟨J15, hJ15, h⟩ := h
  have G15 : ∀ (σ38 : zS), J15 σ38 → zV Ω Γ rm_M_common 7 Q 0 0 zLy ad σ38 15 [(0, .ref (ad 41)), (1, .int (zI road)), (2, .int (zI other))] [.ref (ad 41)] := by
    intro σ38 hJ 
    replace h := hJ15 σ38 hJ 
    refine v_iconst cx d_M_common_15 ?_
    refine v_goto cx 49 d_M_common_16 (by decide) ?_
    have hJ2 := h
    exact G49 _ _ hJ2 ⟨by decide, by decide⟩
  refine v_if_eq cx 15 d_M_common_5 (by decide) (zR_b hr2) (fun c39 => ?_) (fun c39 => ?_)
  · replace h := h.1 c39
    have hJ2 := h
    exact G15 _ hJ2 
  · replace h := h.2 c39
    refine v_iload_n cx 2 d_M_common_8 rfl rfl ?_
    refine v_callSz0 (st := [.ref (ad 41)]) cx (s_M_isRoad hother h) yk_M_isRoad lk_M_209 rfl rfl (Nat.le_of_ble_eq_true rfl) ⟨Nat.le_of_ble_eq_true rfl, Nat.le_of_ble_eq_true rfl⟩ ⟨rfl, rfl⟩ ⟨(Nat.le_of_ble_eq_true rfl), (Nat.le_of_ble_eq_true rfl)⟩ d_M_common_9 (fun r41 σ40 hr41 h => ?_)
    refine v_if_ne cx 19 d_M_common_12 (by decide) (zR_b hr41) (fun c42 => ?_) (fun c42 => ?_)
    · replace h := h.1 c42
      refine v_iload_n cx 1 d_M_common_19 rfl rfl ?_
      refine v_iload_n cx 2 d_M_common_20 rfl rfl ?_
      refine v_icmp_ne cx 28 d_M_common_21 (by decide) hroad hother (fun c43 => ?_) (fun c43 => ?_)
      · replace h := h.1 c43
        refine v_aload_n cx 0 d_M_common_28 rfl rfl ?_
        refine v_iload_n cx 1 d_M_common_29 rfl rfl ?_
        refine v_callVi0 (st := [.ref (ad 41)]) cx (s_M_many hroad h) yk_M_many lk_M_129 zl_41 rfl rfl rfl (Nat.le_of_ble_eq_true rfl) ⟨Nat.le_of_ble_eq_true rfl, Nat.le_of_ble_eq_true rfl⟩ ⟨rfl, rfl⟩ ⟨(Nat.le_of_ble_eq_true rfl), (Nat.le_of_ble_eq_true rfl)⟩ d_M_common_30 (fun r45 σ44 hr45 h => ?_)
        obtain ⟨J44, hJ44, h⟩ := h
        have G44 : ∀ (σ46 : zS), J44 σ46 → zV Ω Γ rm_M_common 7 Q 0 0 zLy ad σ46 44 [(0, .ref (ad 41)), (1, .int (zI road)), (2, .int (zI other))] [.ref (ad 41)] := by
          intro σ46 hJ 
          replace h := hJ44 σ46 hJ 
          refine v_iconst cx d_M_common_44 ?_
          refine v_goto cx 49 d_M_common_45 (by decide) ?_
          have hJ2 := h
          exact G49 _ _ hJ2 ⟨by decide, by decide⟩
        refine v_if_eq cx 44 d_M_common_33 (by decide) hr45 (fun c47 => ?_) (fun c47 => ?_)
        · replace h := h.1 c47
          have hJ2 := h
          exact G44 _ hJ2 
        · replace h := h.2 c47
          refine v_aload_n cx 0 d_M_common_36 rfl rfl ?_
          refine v_iload_n cx 2 d_M_common_37 rfl rfl ?_
          refine v_callVi0 (st := [.ref (ad 41)]) cx (s_M_many hother h) yk_M_many lk_M_129 zl_41 rfl rfl rfl (Nat.le_of_ble_eq_true rfl) ⟨Nat.le_of_ble_eq_true rfl, Nat.le_of_ble_eq_true rfl⟩ ⟨rfl, rfl⟩ ⟨(Nat.le_of_ble_eq_true rfl), (Nat.le_of_ble_eq_true rfl)⟩ d_M_common_38 (fun r49 σ48 hr49 h => ?_)
          refine v_if_ne cx 48 d_M_common_41 (by decide) hr49 (fun c50 => ?_) (fun c50 => ?_)
          · replace h := h.1 c50
            refine v_iconst cx d_M_common_48 ?_
            have hJ2 := h
            exact G49 _ _ hJ2 ⟨by decide, by decide⟩
          · replace h := h.2 c50
            have hJ2 := h
            exact G44 _ hJ2 
      · replace h := h.2 c43
        refine v_iconst cx d_M_common_24 ?_
        refine v_goto cx 49 d_M_common_25 (by decide) ?_
        have hJ2 := h
        exact G49 _ _ hJ2 ⟨by decide, by decide⟩
    · replace h := h.2 c42
      have hJ2 := h
      exact G15 _ hJ2 
def q_M_joins (place : Int) (road : Int) (what : Int) (K : Int → zS → Prop) (σ : zS) : Prop :=
  q_M_isPlace place (fun r2 σ1 =>
    ∃ J46 : Int → zS → Prop, (∀ (w3 : Int) (σ4 : zS), J46 w3 σ4 → zR w3 → 
      ∀ σ5 : zS, σ5 = zU σ4 41 0 w3 → ((σ5 41 0) ≤ 0 →
        q_M_goesFrom place (fun σ8 =>
          ∃ (I73 : Int → Int → Int → zS → Prop) (μ73 : Int → Int → Int → zS → Nat), (I73 1000000000 (-1) 0 σ8) ∧ ∀ (y9 y10 y11 : Int) (σ12 : zS), I73 y9 y10 y11 σ12 → zR y9 → zR y10 → zR y11 → 
          q_M_many road (fun r14 σ13 =>
            (r14 ≤ y11 →
              (y10 ≠ (-1) →
                (what ≠ 0 →
                  K y9 σ13) ∧ (what = 0 →
                  K y10 σ13)) ∧ (y10 = (-1) →
                K (-1) σ13)) ∧ (y11 < r14 →
              q_M_placeAt road y11 (fun r19 σ18 =>
                ∃ J108 : Int → zS → Prop, (∀ (w20 : Int) (σ21 : zS), J108 w20 σ21 → zR w20 → 
                  (w20 < y9 →
                    I73 w20 r19 (y11 + 1) σ21 ∧ zR (y11 + 1) ∧ μ73 w20 r19 (y11 + 1) σ21 < μ73 y9 y10 y11 σ12) ∧ (y9 ≤ w20 →
                    I73 y9 y10 (y11 + 1) σ21 ∧ zR (y11 + 1) ∧ μ73 y9 y10 (y11 + 1) σ21 < μ73 y9 y10 y11 σ12)) ∧
                ((r19 ≠ place →
                    q_M_costAt r19 (fun r29 σ28 =>
                      J108 r29 σ28) σ18) ∧ (r19 = place →
                    J108 0 σ18))) σ13)) σ12) σ5) ∧ (0 < (σ5 41 0) →
        K 0 σ5)) ∧
    (∃ J16 : zS → Prop, (∀ (σ30 : zS), J16 σ30 → 
        J46 1 σ30) ∧
      ((r2 = 0 →
          J16 σ1) ∧ (r2 ≠ 0 →
          q_M_isRoad road (fun r33 σ32 =>
            (r33 ≠ 0 →
              q_M_isIn what 0 1 (fun r36 σ35 =>
                (r36 ≠ 0 →
                  q_M_many road (fun r39 σ38 =>
                    (r39 ≠ 0 →
                      J46 0 σ38) ∧ (r39 = 0 →
                      J46 3 σ38)) σ35) ∧ (r36 = 0 →
                  J46 2 σ35)) σ32) ∧ (r33 = 0 →
              J16 σ32)) σ1)))) σ
abbrev rm_M_joins : Room := { frames := 5, cells := 0, slots := 0, locals := 121 }
set_option maxRecDepth 20000 in
set_option maxHeartbeats 4000000 in
theorem s_M_joins {Ω : zO} {ad : Nat → Nat} {place : Int} {road : Int} {what : Int} {K : Int → zS → Prop} {σ : zS} (hplace : zR place) (hroad : zR road) (hwhat : zR what) (h : q_M_joins place road what K σ) : zMi Ω y_M_joins (.code y_M_joins c_M_joins 9 (some .int)) rm_M_joins zLy ad [.ref (ad 41), .int (zI place), .int (zI road), .int (zI what)] σ K := by
  refine z_ofi (lv := [(0, .ref (ad 41)), (1, .int (zI place)), (2, .int (zI road)), (3, .int (zI what))]) (by decide) rfl (Nat.le_of_ble_eq_true rfl) ?_
  intro Γ Q cx rt
  unfold q_M_joins at h
  refine v_aload_n cx 0 d_M_joins_0 rfl rfl ?_
  refine v_aload_n cx 0 d_M_joins_1 rfl rfl ?_
  refine v_iload_n cx 1 d_M_joins_2 rfl rfl ?_
  refine v_callVz0 (st := [.ref (ad 41)]) cx (s_M_isPlace hplace h) yk_M_isPlace lk_M_203 zl_41 rfl rfl rfl (Nat.le_of_ble_eq_true rfl) ⟨Nat.le_of_ble_eq_true rfl, Nat.le_of_ble_eq_true rfl⟩ ⟨rfl, rfl⟩ ⟨(Nat.le_of_ble_eq_true rfl), (Nat.le_of_ble_eq_true rfl)⟩ d_M_joins_3 (fun r2 σ1 hr2 h => ?_)
  obtain ⟨J46, hJ46, h⟩ := h
  have G46 : ∀ (w3 : Int) (σ4 : zS), J46 w3 σ4 → zR w3 → zV Ω Γ rm_M_joins 9 Q 0 0 zLy ad σ4 46 [(0, .ref (ad 41)), (1, .int (zI place)), (2, .int (zI road)), (3, .int (zI what))] [.int (zI w3), .ref (ad 41)] := by
    intro w3 σ4 hJ hw3
    replace h := hJ46 w3 σ4 hJ hw3
    refine pf_M_87 cx hw3 d_M_joins_46 ?_
    refine v_ns (fun σ5 eσ5 => ?_)
    replace h := h σ5 eσ5
    refine v_aload_n cx 0 d_M_joins_49 rfl rfl ?_
    refine gf_M_87 cx d_M_joins_50 (fun hl6 => ?_)
    refine v_if_le cx 58 d_M_joins_53 (by decide) hl6 (fun c7 => ?_) (fun c7 => ?_)
    · replace h := h.1 c7
      refine v_aload_n cx 0 d_M_joins_58 rfl rfl ?_
      refine v_iload_n cx 1 d_M_joins_59 rfl rfl ?_
      refine v_callVv0 (st := []) cx (s_M_goesFrom hplace h) yk_M_goesFrom lk_M_187 zl_41 rfl rfl rfl (Nat.le_of_ble_eq_true rfl) ⟨Nat.le_of_ble_eq_true rfl, Nat.le_of_ble_eq_true rfl⟩ ⟨rfl, rfl⟩ ⟨(Nat.le_of_ble_eq_true rfl), (Nat.le_of_ble_eq_true rfl)⟩ d_M_joins_60 (fun σ8 h => ?_)
      refine v_ldc cx ct_M_155 d_M_joins_63 ?_
      refine v_istore (lv' := [(0, .ref (ad 41)), (1, .int (zI place)), (2, .int (zI road)), (3, .int (zI what)), (4, .int (zI 1000000000))]) cx d_M_joins_65 (by decide) rfl rfl ?_
      refine v_iconst cx d_M_joins_67 ?_
      refine v_istore (lv' := [(0, .ref (ad 41)), (1, .int (zI place)), (2, .int (zI road)), (3, .int (zI what)), (4, .int (zI 1000000000)), (5, .int (zI (-1)))]) cx d_M_joins_68 (by decide) rfl rfl ?_
      refine v_iconst cx d_M_joins_70 ?_
      refine v_istore (lv' := [(0, .ref (ad 41)), (1, .int (zI place)), (2, .int (zI road)), (3, .int (zI what)), (4, .int (zI 1000000000)), (5, .int (zI (-1))), (6, .int (zI 0))]) cx d_M_joins_71 (by decide) rfl rfl ?_
      obtain ⟨I73, μ73, h0, h⟩ := h
      have L73 : ∀ (N73 : Nat) (y9 y10 y11 : Int) (σ12 : zS), μ73 y9 y10 y11 σ12 < N73 → I73 y9 y10 y11 σ12 → zR y9 → zR y10 → zR y11 → zV Ω Γ rm_M_joins 9 Q 0 0 zLy ad σ12 73 [(0, .ref (ad 41)), (1, .int (zI place)), (2, .int (zI road)), (3, .int (zI what)), (4, .int (zI y9)), (5, .int (zI y10)), (6, .int (zI y11))] [] := by
        intro N73
        induction N73 with
        | zero => intro y9 y10 y11 σ12 hm; exact absurd hm (Nat.not_lt_zero _)
        | succ N73 ih73 =>
          intro y9 y10 y11 σ12 hmm73 hI hy9 hy10 hy11
          replace h := h y9 y10 y11 σ12 hI hy9 hy10 hy11
          refine v_iload cx 6 d_M_joins_73 rfl ?_
          refine v_aload_n cx 0 d_M_joins_75 rfl rfl ?_
          refine v_iload_n cx 2 d_M_joins_76 rfl rfl ?_
          refine v_callVi0 (st := [.int (zI y11)]) cx (s_M_many hroad h) yk_M_many lk_M_129 zl_41 rfl rfl rfl (Nat.le_of_ble_eq_true rfl) ⟨Nat.le_of_ble_eq_true rfl, Nat.le_of_ble_eq_true rfl⟩ ⟨rfl, rfl⟩ ⟨(Nat.le_of_ble_eq_true rfl), (Nat.le_of_ble_eq_true rfl)⟩ d_M_joins_77 (fun r14 σ13 hr14 h => ?_)
          refine v_icmp_ge cx 134 d_M_joins_80 (by decide) hy11 hr14 (fun c15 => ?_) (fun c15 => ?_)
          · replace h := h.1 c15
            refine v_iload cx 5 d_M_joins_134 rfl ?_
            refine v_iconst cx d_M_joins_136 ?_
            refine v_icmp_ne cx 142 d_M_joins_137 (by decide) hy10 ⟨by decide, by decide⟩ (fun c16 => ?_) (fun c16 => ?_)
            · replace h := h.1 c16
              refine v_iload_n cx 3 d_M_joins_142 rfl rfl ?_
              refine v_if_ne cx 151 d_M_joins_143 (by decide) hwhat (fun c17 => ?_) (fun c17 => ?_)
              · replace h := h.1 c17
                refine v_iload cx 4 d_M_joins_151 rfl ?_
                exact rt _ _ _ _ _ _ (Nat.le_of_ble_eq_true rfl) (Nat.le_of_ble_eq_true rfl) d_M_joins_153 hy9 h
              · replace h := h.2 c17
                refine v_iload cx 5 d_M_joins_146 rfl ?_
                refine v_goto cx 153 d_M_joins_148 (by decide) ?_
                exact rt _ _ _ _ _ _ (Nat.le_of_ble_eq_true rfl) (Nat.le_of_ble_eq_true rfl) d_M_joins_153 hy10 h
            · replace h := h.2 c16
              refine v_iconst cx d_M_joins_140 ?_
              exact rt _ _ _ _ _ _ (Nat.le_of_ble_eq_true rfl) (Nat.le_of_ble_eq_true rfl) d_M_joins_141 ⟨by decide, by decide⟩ h
          · replace h := h.2 c15
            refine v_aload_n cx 0 d_M_joins_83 rfl rfl ?_
            refine v_iload_n cx 2 d_M_joins_84 rfl rfl ?_
            refine v_iload cx 6 d_M_joins_85 rfl ?_
            refine v_callVi0 (st := []) cx (s_M_placeAt hroad hy11 h) yk_M_placeAt lk_M_212 zl_41 rfl rfl rfl (Nat.le_of_ble_eq_true rfl) ⟨Nat.le_of_ble_eq_true rfl, Nat.le_of_ble_eq_true rfl⟩ ⟨rfl, rfl⟩ ⟨(Nat.le_of_ble_eq_true rfl), (Nat.le_of_ble_eq_true rfl)⟩ d_M_joins_87 (fun r19 σ18 hr19 h => ?_)
            refine v_istore (lv' := [(0, .ref (ad 41)), (1, .int (zI place)), (2, .int (zI road)), (3, .int (zI what)), (4, .int (zI y9)), (5, .int (zI y10)), (6, .int (zI y11)), (7, .int (zI r19))]) cx d_M_joins_90 (by decide) rfl rfl ?_
            refine v_iload cx 7 d_M_joins_92 rfl ?_
            refine v_iload_n cx 1 d_M_joins_94 rfl rfl ?_
            obtain ⟨J108, hJ108, h⟩ := h
            have G108 : ∀ (w20 : Int) (σ21 : zS), J108 w20 σ21 → zR w20 → zV Ω Γ rm_M_joins 9 Q 0 0 zLy ad σ21 108 [(0, .ref (ad 41)), (1, .int (zI place)), (2, .int (zI road)), (3, .int (zI what)), (4, .int (zI y9)), (5, .int (zI y10)), (6, .int (zI y11)), (7, .int (zI r19))] [.int (zI w20)] := by
              intro w20 σ21 hJ hw20
              replace h := hJ108 w20 σ21 hJ hw20
              refine v_istore (lv' := [(0, .ref (ad 41)), (1, .int (zI place)), (2, .int (zI road)), (3, .int (zI what)), (4, .int (zI y9)), (5, .int (zI y10)), (6, .int (zI y11)), (7, .int (zI r19)), (8, .int (zI w20))]) cx d_M_joins_108 (by decide) rfl rfl ?_
              refine v_iload cx 8 d_M_joins_110 rfl ?_
              refine v_iload cx 4 d_M_joins_112 rfl ?_
              refine v_icmp_lt cx 120 d_M_joins_114 (by decide) hw20 hy9 (fun c22 => ?_) (fun c22 => ?_)
              · replace h := h.1 c22
                refine v_iload cx 8 d_M_joins_120 rfl ?_
                refine v_istore (lv' := [(0, .ref (ad 41)), (1, .int (zI place)), (2, .int (zI road)), (3, .int (zI what)), (4, .int (zI w20)), (5, .int (zI y10)), (6, .int (zI y11)), (7, .int (zI r19)), (8, .int (zI w20))]) cx d_M_joins_122 (by decide) rfl rfl ?_
                refine v_iload cx 7 d_M_joins_124 rfl ?_
                refine v_istore (lv' := [(0, .ref (ad 41)), (1, .int (zI place)), (2, .int (zI road)), (3, .int (zI what)), (4, .int (zI w20)), (5, .int (zI r19)), (6, .int (zI y11)), (7, .int (zI r19)), (8, .int (zI w20))]) cx d_M_joins_126 (by decide) rfl rfl ?_
                refine v_iinc (lv' := [(0, .ref (ad 41)), (1, .int (zI place)), (2, .int (zI road)), (3, .int (zI what)), (4, .int (zI w20)), (5, .int (zI r19)), (6, .int (zI (y11 + 1))), (7, .int (zI r19)), (8, .int (zI w20))]) cx 6 d_M_joins_128 rfl (by decide) rfl rfl ?_
                refine v_goto cx 73 d_M_joins_131 (by decide) ?_
                refine v_sb (lv' := [(0, .ref (ad 41)), (1, .int (zI place)), (2, .int (zI road)), (3, .int (zI what)), (4, .int (zI w20)), (5, .int (zI r19)), (6, .int (zI (y11 + 1)))]) [0, 1, 2, 3, 4, 5, 6] rfl ?_
                obtain ⟨hI2, hz24, hm2⟩ := h
                exact ih73 _ _ _ _ (Nat.lt_of_lt_of_le hm2 (Nat.le_of_lt_succ hmm73)) hI2 hw20 hr19 hz24
              · replace h := h.2 c22
                refine v_goto cx 128 d_M_joins_117 (by decide) ?_
                refine v_iinc (lv' := [(0, .ref (ad 41)), (1, .int (zI place)), (2, .int (zI road)), (3, .int (zI what)), (4, .int (zI y9)), (5, .int (zI y10)), (6, .int (zI (y11 + 1))), (7, .int (zI r19)), (8, .int (zI w20))]) cx 6 d_M_joins_128 rfl (by decide) rfl rfl ?_
                refine v_goto cx 73 d_M_joins_131 (by decide) ?_
                refine v_sb (lv' := [(0, .ref (ad 41)), (1, .int (zI place)), (2, .int (zI road)), (3, .int (zI what)), (4, .int (zI y9)), (5, .int (zI y10)), (6, .int (zI (y11 + 1)))]) [0, 1, 2, 3, 4, 5, 6] rfl ?_
                obtain ⟨hI2, hz26, hm2⟩ := h
                exact ih73 _ _ _ _ (Nat.lt_of_lt_of_le hm2 (Nat.le_of_lt_succ hmm73)) hI2 hy9 hy10 hz26
            refine v_icmp_ne cx 102 d_M_joins_95 (by decide) hr19 hplace (fun c27 => ?_) (fun c27 => ?_)
            · replace h := h.1 c27
              refine v_aload_n cx 0 d_M_joins_102 rfl rfl ?_
              refine v_iload cx 7 d_M_joins_103 rfl ?_
              refine v_callVi0 (st := []) cx (s_M_costAt hr19 h) yk_M_costAt lk_M_191 zl_41 rfl rfl rfl (Nat.le_of_ble_eq_true rfl) ⟨Nat.le_of_ble_eq_true rfl, Nat.le_of_ble_eq_true rfl⟩ ⟨rfl, rfl⟩ ⟨(Nat.le_of_ble_eq_true rfl), (Nat.le_of_ble_eq_true rfl)⟩ d_M_joins_105 (fun r29 σ28 hr29 h => ?_)
              have hJ2 := h
              exact G108 _ _ hJ2 hr29
            · replace h := h.2 c27
              refine v_iconst cx d_M_joins_98 ?_
              refine v_goto cx 108 d_M_joins_99 (by decide) ?_
              have hJ2 := h
              exact G108 _ _ hJ2 ⟨by decide, by decide⟩
      exact L73 _ _ _ _ _ (Nat.lt_succ_self _) h0 ⟨by decide, by decide⟩ ⟨by decide, by decide⟩ ⟨by decide, by decide⟩
    · replace h := h.2 c7
      refine v_iconst cx d_M_joins_56 ?_
      exact rt _ _ _ _ _ _ (Nat.le_of_ble_eq_true rfl) (Nat.le_of_ble_eq_true rfl) d_M_joins_57 ⟨by decide, by decide⟩ h
  obtain ⟨J16, hJ16, h⟩ := h
  have G16 : ∀ (σ30 : zS), J16 σ30 → zV Ω Γ rm_M_joins 9 Q 0 0 zLy ad σ30 16 [(0, .ref (ad 41)), (1, .int (zI place)), (2, .int (zI road)), (3, .int (zI what))] [.ref (ad 41)] := by
    intro σ30 hJ 
    replace h := hJ16 σ30 hJ 
    refine v_iconst cx d_M_joins_16 ?_
    refine v_goto cx 46 d_M_joins_17 (by decide) ?_
    have hJ2 := h
    exact G46 _ _ hJ2 ⟨by decide, by decide⟩
  refine v_if_eq cx 16 d_M_joins_6 (by decide) (zR_b hr2) (fun c31 => ?_) (fun c31 => ?_)
  · replace h := h.1 c31
    have hJ2 := h
    exact G16 _ hJ2 
  · replace h := h.2 c31
    refine v_iload_n cx 2 d_M_joins_9 rfl rfl ?_
    refine v_callSz0 (st := [.ref (ad 41)]) cx (s_M_isRoad hroad h) yk_M_isRoad lk_M_209 rfl rfl (Nat.le_of_ble_eq_true rfl) ⟨Nat.le_of_ble_eq_true rfl, Nat.le_of_ble_eq_true rfl⟩ ⟨rfl, rfl⟩ ⟨(Nat.le_of_ble_eq_true rfl), (Nat.le_of_ble_eq_true rfl)⟩ d_M_joins_10 (fun r33 σ32 hr33 h => ?_)
    refine v_if_ne cx 20 d_M_joins_13 (by decide) (zR_b hr33) (fun c34 => ?_) (fun c34 => ?_)
    · replace h := h.1 c34
      refine v_iload_n cx 3 d_M_joins_20 rfl rfl ?_
      refine v_iconst cx d_M_joins_21 ?_
      refine v_iconst cx d_M_joins_22 ?_
      refine v_callSz0 (st := [.ref (ad 41)]) cx (s_M_isIn hwhat ⟨by decide, by decide⟩ ⟨by decide, by decide⟩ h) yk_M_isIn lk_M_94 rfl rfl (Nat.le_of_ble_eq_true rfl) ⟨Nat.le_of_ble_eq_true rfl, Nat.le_of_ble_eq_true rfl⟩ ⟨rfl, rfl⟩ ⟨(Nat.le_of_ble_eq_true rfl), (Nat.le_of_ble_eq_true rfl)⟩ d_M_joins_23 (fun r36 σ35 hr36 h => ?_)
      refine v_if_ne cx 33 d_M_joins_26 (by decide) (zR_b hr36) (fun c37 => ?_) (fun c37 => ?_)
      · replace h := h.1 c37
        refine v_aload_n cx 0 d_M_joins_33 rfl rfl ?_
        refine v_iload_n cx 2 d_M_joins_34 rfl rfl ?_
        refine v_callVi0 (st := [.ref (ad 41)]) cx (s_M_many hroad h) yk_M_many lk_M_129 zl_41 rfl rfl rfl (Nat.le_of_ble_eq_true rfl) ⟨Nat.le_of_ble_eq_true rfl, Nat.le_of_ble_eq_true rfl⟩ ⟨rfl, rfl⟩ ⟨(Nat.le_of_ble_eq_true rfl), (Nat.le_of_ble_eq_true rfl)⟩ d_M_joins_35 (fun r39 σ38 hr39 h => ?_)
        refine v_if_ne cx 45 d_M_joins_38 (by decide) hr39 (fun c40 => ?_) (fun c40 => ?_)
        · replace h := h.1 c40
          refine v_iconst cx d_M_joins_45 ?_
          have hJ2 := h
          exact G46 _ _ hJ2 ⟨by decide, by decide⟩
        · replace h := h.2 c40
          refine v_iconst cx d_M_joins_41 ?_
          refine v_goto cx 46 d_M_joins_42 (by decide) ?_
          have hJ2 := h
          exact G46 _ _ hJ2 ⟨by decide, by decide⟩
      · replace h := h.2 c37
        refine v_iconst cx d_M_joins_29 ?_
        refine v_goto cx 46 d_M_joins_30 (by decide) ?_
        have hJ2 := h
        exact G46 _ _ hJ2 ⟨by decide, by decide⟩
    · replace h := h.2 c34
      have hJ2 := h
      exact G16 _ hJ2 
