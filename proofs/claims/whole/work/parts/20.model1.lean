def q_M_thrown (K : Int → zS → Prop) (σ : zS) : Prop :=
  K (σ 41 0) σ
abbrev rm_M_thrown : Room := { frames := 0, cells := 0, slots := 0, locals := 0 }
set_option maxRecDepth 20000 in
set_option maxHeartbeats 4000000 in
theorem s_M_thrown {Ω : zO} {ad : Nat → Nat} {K : Int → zS → Prop} {σ : zS}  (h : q_M_thrown K σ) : zMi Ω y_M_thrown (.code y_M_thrown c_M_thrown 1 (some .int)) rm_M_thrown zLy ad [.ref (ad 41)] σ K := by
  refine z_ofi (lv := [(0, .ref (ad 41))]) (by decide) rfl (Nat.le_of_ble_eq_true rfl) ?_
  intro Γ Q cx rt
  unfold q_M_thrown at h
  refine v_aload_n cx 0 d_M_thrown_0 rfl rfl ?_
  refine gf_M_87 cx d_M_thrown_1 (fun hl1 => ?_)
  exact rt _ _ _ _ _ _ (Nat.le_of_ble_eq_true rfl) (Nat.le_of_ble_eq_true rfl) d_M_thrown_4 hl1 h
def q_M_isIn (v : Int) (low : Int) (high : Int) (K : Int → zS → Prop) (σ : zS) : Prop :=
  (v < low →
    K 0 σ) ∧ (low ≤ v →
    (high < v →
      K 0 σ) ∧ (v ≤ high →
      K 1 σ))
abbrev rm_M_isIn : Room := { frames := 0, cells := 0, slots := 0, locals := 0 }
set_option maxRecDepth 20000 in
set_option maxHeartbeats 4000000 in
theorem s_M_isIn {Ω : zO} {ad : Nat → Nat} {v : Int} {low : Int} {high : Int} {K : Int → zS → Prop} {σ : zS} (hv : zR v) (hlow : zR low) (hhigh : zR high) (h : q_M_isIn v low high K σ) : zMz Ω y_M_isIn (.code y_M_isIn c_M_isIn 3 (some .boolean)) rm_M_isIn zLy ad [.int (zI v), .int (zI low), .int (zI high)] σ K := by
  refine z_ofz (lv := [(0, .int (zI v)), (1, .int (zI low)), (2, .int (zI high))]) (by decide) rfl (Nat.le_of_ble_eq_true rfl) ?_
  intro Γ Q cx rt
  unfold q_M_isIn at h
  refine v_iload_n cx 0 d_M_isIn_0 rfl rfl ?_
  refine v_iload_n cx 1 d_M_isIn_1 rfl rfl ?_
  refine v_icmp_lt cx 14 d_M_isIn_2 (by decide) hv hlow (fun c1 => ?_) (fun c1 => ?_)
  · replace h := h.1 c1
    refine v_iconst cx d_M_isIn_14 ?_
    exact rt _ _ _ _ _ _ (Nat.le_of_ble_eq_true rfl) (Nat.le_of_ble_eq_true rfl) d_M_isIn_15 (Or.inl rfl) h
  · replace h := h.2 c1
    refine v_iload_n cx 0 d_M_isIn_5 rfl rfl ?_
    refine v_iload_n cx 2 d_M_isIn_6 rfl rfl ?_
    refine v_icmp_gt cx 14 d_M_isIn_7 (by decide) hv hhigh (fun c2 => ?_) (fun c2 => ?_)
    · replace h := h.1 c2
      refine v_iconst cx d_M_isIn_14 ?_
      exact rt _ _ _ _ _ _ (Nat.le_of_ble_eq_true rfl) (Nat.le_of_ble_eq_true rfl) d_M_isIn_15 (Or.inl rfl) h
    · replace h := h.2 c2
      refine v_iconst cx d_M_isIn_10 ?_
      refine v_goto cx 15 d_M_isIn_11 (by decide) ?_
      exact rt _ _ _ _ _ _ (Nat.le_of_ble_eq_true rfl) (Nat.le_of_ble_eq_true rfl) d_M_isIn_15 (Or.inr rfl) h
def q_M_apart (a : Int) (b : Int) (K : Int → zS → Prop) (σ : zS) : Prop :=
  (b ≤ a →
    zR (a - b) ∧ (K (a - b) σ)) ∧ (a < b →
    zR (b - a) ∧ (K (b - a) σ))
abbrev rm_M_apart : Room := { frames := 0, cells := 0, slots := 0, locals := 0 }
set_option maxRecDepth 20000 in
set_option maxHeartbeats 4000000 in
theorem s_M_apart {Ω : zO} {ad : Nat → Nat} {a : Int} {b : Int} {K : Int → zS → Prop} {σ : zS} (ha : zR a) (hb : zR b) (h : q_M_apart a b K σ) : zMi Ω y_M_apart (.code y_M_apart c_M_apart 2 (some .int)) rm_M_apart zLy ad [.int (zI a), .int (zI b)] σ K := by
  refine z_ofi (lv := [(0, .int (zI a)), (1, .int (zI b))]) (by decide) rfl (Nat.le_of_ble_eq_true rfl) ?_
  intro Γ Q cx rt
  unfold q_M_apart at h
  refine v_iload_n cx 0 d_M_apart_0 rfl rfl ?_
  refine v_iload_n cx 1 d_M_apart_1 rfl rfl ?_
  refine v_icmp_ge cx 11 d_M_apart_2 (by decide) ha hb (fun c1 => ?_) (fun c1 => ?_)
  · replace h := h.1 c1
    refine v_iload_n cx 0 d_M_apart_11 rfl rfl ?_
    refine v_iload_n cx 1 d_M_apart_12 rfl rfl ?_
    refine v_isub cx d_M_apart_13 ?_
    obtain ⟨hr2, h⟩ := h
    exact rt _ _ _ _ _ _ (Nat.le_of_ble_eq_true rfl) (Nat.le_of_ble_eq_true rfl) d_M_apart_14 hr2 h
  · replace h := h.2 c1
    refine v_iload_n cx 1 d_M_apart_5 rfl rfl ?_
    refine v_iload_n cx 0 d_M_apart_6 rfl rfl ?_
    refine v_isub cx d_M_apart_7 ?_
    refine v_goto cx 14 d_M_apart_8 (by decide) ?_
    obtain ⟨hr3, h⟩ := h
    exact rt _ _ _ _ _ _ (Nat.le_of_ble_eq_true rfl) (Nat.le_of_ble_eq_true rfl) d_M_apart_14 hr3 h
def q_M_lesser (a : Int) (b : Int) (K : Int → zS → Prop) (σ : zS) : Prop :=
  (b ≤ a →
    K b σ) ∧ (a < b →
    K a σ)
abbrev rm_M_lesser : Room := { frames := 0, cells := 0, slots := 0, locals := 0 }
set_option maxRecDepth 20000 in
set_option maxHeartbeats 4000000 in
theorem s_M_lesser {Ω : zO} {ad : Nat → Nat} {a : Int} {b : Int} {K : Int → zS → Prop} {σ : zS} (ha : zR a) (hb : zR b) (h : q_M_lesser a b K σ) : zMi Ω y_M_lesser (.code y_M_lesser c_M_lesser 2 (some .int)) rm_M_lesser zLy ad [.int (zI a), .int (zI b)] σ K := by
  refine z_ofi (lv := [(0, .int (zI a)), (1, .int (zI b))]) (by decide) rfl (Nat.le_of_ble_eq_true rfl) ?_
  intro Γ Q cx rt
  unfold q_M_lesser at h
  refine v_iload_n cx 0 d_M_lesser_0 rfl rfl ?_
  refine v_iload_n cx 1 d_M_lesser_1 rfl rfl ?_
  refine v_icmp_ge cx 9 d_M_lesser_2 (by decide) ha hb (fun c1 => ?_) (fun c1 => ?_)
  · replace h := h.1 c1
    refine v_iload_n cx 1 d_M_lesser_9 rfl rfl ?_
    exact rt _ _ _ _ _ _ (Nat.le_of_ble_eq_true rfl) (Nat.le_of_ble_eq_true rfl) d_M_lesser_10 hb h
  · replace h := h.2 c1
    refine v_iload_n cx 0 d_M_lesser_5 rfl rfl ?_
    refine v_goto cx 10 d_M_lesser_6 (by decide) ?_
    exact rt _ _ _ _ _ _ (Nat.le_of_ble_eq_true rfl) (Nat.le_of_ble_eq_true rfl) d_M_lesser_10 ha h
def q_M_places (K : Int → zS → Prop) (σ : zS) : Prop :=
  zR ((σ 42 0) * (σ 42 1)) ∧ (K ((σ 42 0) * (σ 42 1)) σ)
abbrev rm_M_places : Room := { frames := 0, cells := 0, slots := 0, locals := 0 }
set_option maxRecDepth 20000 in
set_option maxHeartbeats 4000000 in
theorem s_M_places {Ω : zO} {ad : Nat → Nat} {K : Int → zS → Prop} {σ : zS}  (h : q_M_places K σ) : zMi Ω y_M_places (.code y_M_places c_M_places 1 (some .int)) rm_M_places zLy ad [.ref (ad 41)] σ K := by
  refine z_ofi (lv := [(0, .ref (ad 41))]) (by decide) rfl (Nat.le_of_ble_eq_true rfl) ?_
  intro Γ Q cx rt
  unfold q_M_places at h
  refine v_aload_n cx 0 d_M_places_0 rfl rfl ?_
  refine gf_M_7 cx d_M_places_1 ?_
  refine v_iconst cx d_M_places_4 ?_
  refine v_iald cx zl_42 (by decide) (by decide) (by decide) d_M_places_5 (fun hl1 => ?_)
  refine v_aload_n cx 0 d_M_places_6 rfl rfl ?_
  refine gf_M_7 cx d_M_places_7 ?_
  refine v_iconst cx d_M_places_10 ?_
  refine v_iald cx zl_42 (by decide) (by decide) (by decide) d_M_places_11 (fun hl2 => ?_)
  refine v_imul cx d_M_places_12 ?_
  obtain ⟨hr3, h⟩ := h
  exact rt _ _ _ _ _ _ (Nat.le_of_ble_eq_true rfl) (Nat.le_of_ble_eq_true rfl) d_M_places_13 hr3 h
def q_M_isPlace (p : Int) (K : Int → zS → Prop) (σ : zS) : Prop :=
  q_M_places (fun r2 σ1 =>
    zR (r2 - 1) ∧ (q_M_isIn p 0 (r2 - 1) (fun r5 σ4 =>
        K r5 σ4) σ1)) σ
abbrev rm_M_isPlace : Room := { frames := 1, cells := 0, slots := 0, locals := 22 }
set_option maxRecDepth 20000 in
set_option maxHeartbeats 4000000 in
theorem s_M_isPlace {Ω : zO} {ad : Nat → Nat} {p : Int} {K : Int → zS → Prop} {σ : zS} (hp : zR p) (h : q_M_isPlace p K σ) : zMz Ω y_M_isPlace (.code y_M_isPlace c_M_isPlace 2 (some .boolean)) rm_M_isPlace zLy ad [.ref (ad 41), .int (zI p)] σ K := by
  refine z_ofz (lv := [(0, .ref (ad 41)), (1, .int (zI p))]) (by decide) rfl (Nat.le_of_ble_eq_true rfl) ?_
  intro Γ Q cx rt
  unfold q_M_isPlace at h
  refine v_iload_n cx 1 d_M_isPlace_0 rfl rfl ?_
  refine v_iconst cx d_M_isPlace_1 ?_
  refine v_aload_n cx 0 d_M_isPlace_2 rfl rfl ?_
  refine v_callVi0 (st := [.int (zI 0), .int (zI p)]) cx (s_M_places  h) yk_M_places lk_M_90 zl_41 rfl rfl rfl (Nat.le_of_ble_eq_true rfl) ⟨Nat.le_of_ble_eq_true rfl, Nat.le_of_ble_eq_true rfl⟩ ⟨rfl, rfl⟩ ⟨(Nat.le_of_ble_eq_true rfl), (Nat.le_of_ble_eq_true rfl)⟩ d_M_isPlace_3 (fun r2 σ1 hr2 h => ?_)
  refine v_iconst cx d_M_isPlace_6 ?_
  refine v_isub cx d_M_isPlace_7 ?_
  obtain ⟨hr3, h⟩ := h
  refine v_callSz0 (st := []) cx (s_M_isIn hp ⟨by decide, by decide⟩ hr3 h) yk_M_isIn lk_M_94 rfl rfl (Nat.le_of_ble_eq_true rfl) ⟨Nat.le_of_ble_eq_true rfl, Nat.le_of_ble_eq_true rfl⟩ ⟨rfl, rfl⟩ ⟨(Nat.le_of_ble_eq_true rfl), (Nat.le_of_ble_eq_true rfl)⟩ d_M_isPlace_8 (fun r5 σ4 hr5 h => ?_)
  exact rt _ _ _ _ _ _ (Nat.le_of_ble_eq_true rfl) (Nat.le_of_ble_eq_true rfl) d_M_isPlace_11 hr5 h
def q_M_isWet (p : Int) (K : Int → zS → Prop) (σ : zS) : Prop :=
  (0 ≤ 94 + p ∧ 94 + p < 499) ∧ (((σ 42 (94 + p)) ≠ 1 →
      K 0 σ) ∧ ((σ 42 (94 + p)) = 1 →
      K 1 σ))
abbrev rm_M_isWet : Room := { frames := 0, cells := 0, slots := 0, locals := 0 }
set_option maxRecDepth 20000 in
set_option maxHeartbeats 4000000 in
theorem s_M_isWet {Ω : zO} {ad : Nat → Nat} {p : Int} {K : Int → zS → Prop} {σ : zS} (hp : zR p) (h : q_M_isWet p K σ) : zMz Ω y_M_isWet (.code y_M_isWet c_M_isWet 2 (some .boolean)) rm_M_isWet zLy ad [.ref (ad 41), .int (zI p)] σ K := by
  refine z_ofz (lv := [(0, .ref (ad 41)), (1, .int (zI p))]) (by decide) rfl (Nat.le_of_ble_eq_true rfl) ?_
  intro Γ Q cx rt
  unfold q_M_isWet at h
  refine v_aload_n cx 0 d_M_isWet_0 rfl rfl ?_
  refine gf_M_7 cx d_M_isWet_1 ?_
  refine v_bipush cx (by decide) d_M_isWet_4 ?_
  refine v_iload_n cx 1 d_M_isWet_6 rfl rfl ?_
  refine v_iadd cx d_M_isWet_7 ?_
  obtain ⟨hb1, h⟩ := h
  refine v_iald cx zl_42 (by decide) hb1.1 hb1.2 d_M_isWet_8 (fun hl2 => ?_)
  refine v_iconst cx d_M_isWet_9 ?_
  refine v_icmp_ne cx 17 d_M_isWet_10 (by decide) hl2 ⟨by decide, by decide⟩ (fun c3 => ?_) (fun c3 => ?_)
  · replace h := h.1 c3
    refine v_iconst cx d_M_isWet_17 ?_
    exact rt _ _ _ _ _ _ (Nat.le_of_ble_eq_true rfl) (Nat.le_of_ble_eq_true rfl) d_M_isWet_18 (Or.inl rfl) h
  · replace h := h.2 c3
    refine v_iconst cx d_M_isWet_13 ?_
    refine v_goto cx 18 d_M_isWet_14 (by decide) ?_
    exact rt _ _ _ _ _ _ (Nat.le_of_ble_eq_true rfl) (Nat.le_of_ble_eq_true rfl) d_M_isWet_18 (Or.inr rfl) h
def q_M_beside (p : Int) (g : Int) (K : Int → zS → Prop) (σ : zS) : Prop :=
  (σ 42 0) ≠ 0 ∧ ((σ 42 0) ≠ -1 ∧ ((0 ≤ g ∧ g < 8) ∧ (∀ x6 : Int, x6 = (Int.tdiv p (σ 42 0)) + (σ 47 g) → (σ 42 0) ≠ 0 ∧ (∀ x10 : Int, x10 = (Int.tmod p (σ 42 0)) + (σ 48 g) → zR x6 ∧ (zR ((σ 42 1) - 1) ∧ (q_M_isIn x6 0 ((σ 42 1) - 1) (fun r15 σ14 =>
                (r15 = 0 →
                  K (-1) σ14) ∧ (r15 ≠ 0 →
                  zR x10 ∧ (zR ((σ14 42 0) - 1) ∧ (q_M_isIn x10 0 ((σ14 42 0) - 1) (fun r21 σ20 =>
                        (r21 = 0 →
                          K (-1) σ20) ∧ (r21 ≠ 0 →
                          zR ((x6 * (σ20 42 0)) + x10) ∧ (K ((x6 * (σ20 42 0)) + x10) σ20))) σ14)))) σ))))))
abbrev rm_M_beside : Room := { frames := 1, cells := 0, slots := 0, locals := 22 }
set_option maxRecDepth 20000 in
set_option maxHeartbeats 4000000 in
theorem s_M_beside {Ω : zO} {ad : Nat → Nat} {p : Int} {g : Int} {K : Int → zS → Prop} {σ : zS} (hp : zR p) (hg : zR g) (h : q_M_beside p g K σ) : zMi Ω y_M_beside (.code y_M_beside c_M_beside 5 (some .int)) rm_M_beside zLy ad [.ref (ad 41), .int (zI p), .int (zI g)] σ K := by
  refine z_ofi (lv := [(0, .ref (ad 41)), (1, .int (zI p)), (2, .int (zI g))]) (by decide) rfl (Nat.le_of_ble_eq_true rfl) ?_
  intro Γ Q cx rt
  unfold q_M_beside at h
  refine v_iload_n cx 1 d_M_beside_0 rfl rfl ?_
  refine v_aload_n cx 0 d_M_beside_1 rfl rfl ?_
  refine gf_M_7 cx d_M_beside_2 ?_
  refine v_iconst cx d_M_beside_5 ?_
  refine v_iald cx zl_42 (by decide) (by decide) (by decide) d_M_beside_6 (fun hl1 => ?_)
  obtain ⟨hz2, h⟩ := h
  obtain ⟨hz3, h⟩ := h
  refine v_idiv cx d_M_beside_7 hp hl1 hz2 (Or.inr hz3) ?_
  refine v_aload_n cx 0 d_M_beside_8 rfl rfl ?_
  refine gf_M_25 cx d_M_beside_9 ?_
  refine v_iload_n cx 2 d_M_beside_12 rfl rfl ?_
  obtain ⟨hb4, h⟩ := h
  refine v_iald cx zl_47 (by decide) hb4.1 hb4.2 d_M_beside_13 (fun hl5 => ?_)
  refine v_iadd cx d_M_beside_14 ?_
  refine v_nm (fun x6 ex6 => ?_)
  replace h := h x6 ex6
  refine v_istore_n (lv' := [(0, .ref (ad 41)), (1, .int (zI p)), (2, .int (zI g)), (3, .int (zI x6))]) cx d_M_beside_15 rfl (by decide) rfl rfl ?_
  refine v_iload_n cx 1 d_M_beside_16 rfl rfl ?_
  refine v_aload_n cx 0 d_M_beside_17 rfl rfl ?_
  refine gf_M_7 cx d_M_beside_18 ?_
  refine v_iconst cx d_M_beside_21 ?_
  refine v_iald cx zl_42 (by decide) (by decide) (by decide) d_M_beside_22 (fun hl7 => ?_)
  obtain ⟨hz8, h⟩ := h
  refine v_irem cx d_M_beside_23 hp hl7 hz8 ?_
  refine v_aload_n cx 0 d_M_beside_24 rfl rfl ?_
  refine gf_M_28 cx d_M_beside_25 ?_
  refine v_iload_n cx 2 d_M_beside_28 rfl rfl ?_
  refine v_iald cx zl_48 (by decide) hb4.1 hb4.2 d_M_beside_29 (fun hl9 => ?_)
  refine v_iadd cx d_M_beside_30 ?_
  refine v_nm (fun x10 ex10 => ?_)
  replace h := h x10 ex10
  refine v_istore (lv' := [(0, .ref (ad 41)), (1, .int (zI p)), (2, .int (zI g)), (3, .int (zI x6)), (4, .int (zI x10))]) cx d_M_beside_31 (by decide) rfl rfl ?_
  refine v_iload_n cx 3 d_M_beside_33 rfl rfl ?_
  refine v_iconst cx d_M_beside_34 ?_
  refine v_aload_n cx 0 d_M_beside_35 rfl rfl ?_
  refine gf_M_7 cx d_M_beside_36 ?_
  refine v_iconst cx d_M_beside_39 ?_
  refine v_iald cx zl_42 (by decide) (by decide) (by decide) d_M_beside_40 (fun hl11 => ?_)
  refine v_iconst cx d_M_beside_41 ?_
  refine v_isub cx d_M_beside_42 ?_
  obtain ⟨hr12, h⟩ := h
  obtain ⟨hr13, h⟩ := h
  refine v_callSz0 (st := []) cx (s_M_isIn hr12 ⟨by decide, by decide⟩ hr13 h) yk_M_isIn lk_M_94 rfl rfl (Nat.le_of_ble_eq_true rfl) ⟨Nat.le_of_ble_eq_true rfl, Nat.le_of_ble_eq_true rfl⟩ ⟨rfl, rfl⟩ ⟨(Nat.le_of_ble_eq_true rfl), (Nat.le_of_ble_eq_true rfl)⟩ d_M_beside_43 (fun r15 σ14 hr15 h => ?_)
  refine v_if_eq cx 80 d_M_beside_46 (by decide) (zR_b hr15) (fun c16 => ?_) (fun c16 => ?_)
  · replace h := h.1 c16
    refine v_iconst cx d_M_beside_80 ?_
    exact rt _ _ _ _ _ _ (Nat.le_of_ble_eq_true rfl) (Nat.le_of_ble_eq_true rfl) d_M_beside_81 ⟨by decide, by decide⟩ h
  · replace h := h.2 c16
    refine v_iload cx 4 d_M_beside_49 rfl ?_
    refine v_iconst cx d_M_beside_51 ?_
    refine v_aload_n cx 0 d_M_beside_52 rfl rfl ?_
    refine gf_M_7 cx d_M_beside_53 ?_
    refine v_iconst cx d_M_beside_56 ?_
    refine v_iald cx zl_42 (by decide) (by decide) (by decide) d_M_beside_57 (fun hl17 => ?_)
    refine v_iconst cx d_M_beside_58 ?_
    refine v_isub cx d_M_beside_59 ?_
    obtain ⟨hr18, h⟩ := h
    obtain ⟨hr19, h⟩ := h
    refine v_callSz0 (st := []) cx (s_M_isIn hr18 ⟨by decide, by decide⟩ hr19 h) yk_M_isIn lk_M_94 rfl rfl (Nat.le_of_ble_eq_true rfl) ⟨Nat.le_of_ble_eq_true rfl, Nat.le_of_ble_eq_true rfl⟩ ⟨rfl, rfl⟩ ⟨(Nat.le_of_ble_eq_true rfl), (Nat.le_of_ble_eq_true rfl)⟩ d_M_beside_60 (fun r21 σ20 hr21 h => ?_)
    refine v_if_eq cx 80 d_M_beside_63 (by decide) (zR_b hr21) (fun c22 => ?_) (fun c22 => ?_)
    · replace h := h.1 c22
      refine v_iconst cx d_M_beside_80 ?_
      exact rt _ _ _ _ _ _ (Nat.le_of_ble_eq_true rfl) (Nat.le_of_ble_eq_true rfl) d_M_beside_81 ⟨by decide, by decide⟩ h
    · replace h := h.2 c22
      refine v_iload_n cx 3 d_M_beside_66 rfl rfl ?_
      refine v_aload_n cx 0 d_M_beside_67 rfl rfl ?_
      refine gf_M_7 cx d_M_beside_68 ?_
      refine v_iconst cx d_M_beside_71 ?_
      refine v_iald cx zl_42 (by decide) (by decide) (by decide) d_M_beside_72 (fun hl23 => ?_)
      refine v_imul cx d_M_beside_73 ?_
      refine v_iload cx 4 d_M_beside_74 rfl ?_
      refine v_iadd cx d_M_beside_76 ?_
      refine v_goto cx 81 d_M_beside_77 (by decide) ?_
      obtain ⟨hr24, h⟩ := h
      exact rt _ _ _ _ _ _ (Nat.le_of_ble_eq_true rfl) (Nat.le_of_ble_eq_true rfl) d_M_beside_81 hr24 h
def q_M_longOf (g : Int) (K : Int → zS → Prop) (σ : zS) : Prop :=
  zR (Int.tmod g 2) ∧ (((Int.tmod g 2) ≠ 0 →
      K 14 σ) ∧ ((Int.tmod g 2) = 0 →
      K 10 σ))
abbrev rm_M_longOf : Room := { frames := 0, cells := 0, slots := 0, locals := 0 }
set_option maxRecDepth 20000 in
set_option maxHeartbeats 4000000 in
theorem s_M_longOf {Ω : zO} {ad : Nat → Nat} {g : Int} {K : Int → zS → Prop} {σ : zS} (hg : zR g) (h : q_M_longOf g K σ) : zMi Ω y_M_longOf (.code y_M_longOf c_M_longOf 1 (some .int)) rm_M_longOf zLy ad [.int (zI g)] σ K := by
  refine z_ofi (lv := [(0, .int (zI g))]) (by decide) rfl (Nat.le_of_ble_eq_true rfl) ?_
  intro Γ Q cx rt
  unfold q_M_longOf at h
  refine v_iload_n cx 0 d_M_longOf_0 rfl rfl ?_
  refine v_iconst cx d_M_longOf_1 ?_
  refine v_irem cx d_M_longOf_2 hg ⟨by decide, by decide⟩ (by decide) ?_
  obtain ⟨hr1, h⟩ := h
  refine v_if_ne cx 11 d_M_longOf_3 (by decide) hr1 (fun c2 => ?_) (fun c2 => ?_)
  · replace h := h.1 c2
    refine v_bipush cx (by decide) d_M_longOf_11 ?_
    exact rt _ _ _ _ _ _ (Nat.le_of_ble_eq_true rfl) (Nat.le_of_ble_eq_true rfl) d_M_longOf_13 ⟨by decide, by decide⟩ h
  · replace h := h.2 c2
    refine v_bipush cx (by decide) d_M_longOf_6 ?_
    refine v_goto cx 13 d_M_longOf_8 (by decide) ?_
    exact rt _ _ _ _ _ _ (Nat.le_of_ble_eq_true rfl) (Nat.le_of_ble_eq_true rfl) d_M_longOf_13 ⟨by decide, by decide⟩ h
def q_M_differ (p : Int) (q : Int) (K : Int → zS → Prop) (σ : zS) : Prop :=
  (0 ≤ 13 + p ∧ 13 + p < 499) ∧ ((0 ≤ 13 + q ∧ 13 + q < 499) ∧ (q_M_apart (σ 42 (13 + p)) (σ 42 (13 + q)) (fun r6 σ5 =>
        K r6 σ5) σ))
abbrev rm_M_differ : Room := { frames := 1, cells := 0, slots := 0, locals := 21 }
set_option maxRecDepth 20000 in
set_option maxHeartbeats 4000000 in
theorem s_M_differ {Ω : zO} {ad : Nat → Nat} {p : Int} {q : Int} {K : Int → zS → Prop} {σ : zS} (hp : zR p) (hq : zR q) (h : q_M_differ p q K σ) : zMi Ω y_M_differ (.code y_M_differ c_M_differ 3 (some .int)) rm_M_differ zLy ad [.ref (ad 41), .int (zI p), .int (zI q)] σ K := by
  refine z_ofi (lv := [(0, .ref (ad 41)), (1, .int (zI p)), (2, .int (zI q))]) (by decide) rfl (Nat.le_of_ble_eq_true rfl) ?_
  intro Γ Q cx rt
  unfold q_M_differ at h
  refine v_aload_n cx 0 d_M_differ_0 rfl rfl ?_
  refine gf_M_7 cx d_M_differ_1 ?_
  refine v_bipush cx (by decide) d_M_differ_4 ?_
  refine v_iload_n cx 1 d_M_differ_6 rfl rfl ?_
  refine v_iadd cx d_M_differ_7 ?_
  obtain ⟨hb1, h⟩ := h
  refine v_iald cx zl_42 (by decide) hb1.1 hb1.2 d_M_differ_8 (fun hl2 => ?_)
  refine v_aload_n cx 0 d_M_differ_9 rfl rfl ?_
  refine gf_M_7 cx d_M_differ_10 ?_
  refine v_bipush cx (by decide) d_M_differ_13 ?_
  refine v_iload_n cx 2 d_M_differ_15 rfl rfl ?_
  refine v_iadd cx d_M_differ_16 ?_
  obtain ⟨hb3, h⟩ := h
  refine v_iald cx zl_42 (by decide) hb3.1 hb3.2 d_M_differ_17 (fun hl4 => ?_)
  refine v_callSi0 (st := []) cx (s_M_apart hl2 hl4 h) yk_M_apart lk_M_98 rfl rfl (Nat.le_of_ble_eq_true rfl) ⟨Nat.le_of_ble_eq_true rfl, Nat.le_of_ble_eq_true rfl⟩ ⟨rfl, rfl⟩ ⟨(Nat.le_of_ble_eq_true rfl), (Nat.le_of_ble_eq_true rfl)⟩ d_M_differ_18 (fun r6 σ5 hr6 h => ?_)
  exact rt _ _ _ _ _ _ (Nat.le_of_ble_eq_true rfl) (Nat.le_of_ble_eq_true rfl) d_M_differ_21 hr6 h
def q_M_isSteep (p : Int) (g : Int) (K : Int → zS → Prop) (σ : zS) : Prop :=
  q_M_beside p g (fun r2 σ1 =>
    q_M_differ p r2 (fun r4 σ3 =>
      q_M_longOf g (fun r7 σ6 =>
        zR (100 * r4) ∧ (zR ((σ3 42 2) * r7) ∧ (((100 * r4) ≤ ((σ3 42 2) * r7) →
              K 0 σ6) ∧ (((σ3 42 2) * r7) < (100 * r4) →
              K 1 σ6)))) σ3) σ1) σ
abbrev rm_M_isSteep : Room := { frames := 2, cells := 0, slots := 0, locals := 46 }
set_option maxRecDepth 20000 in
set_option maxHeartbeats 4000000 in
theorem s_M_isSteep {Ω : zO} {ad : Nat → Nat} {p : Int} {g : Int} {K : Int → zS → Prop} {σ : zS} (hp : zR p) (hg : zR g) (h : q_M_isSteep p g K σ) : zMz Ω y_M_isSteep (.code y_M_isSteep c_M_isSteep 3 (some .boolean)) rm_M_isSteep zLy ad [.ref (ad 41), .int (zI p), .int (zI g)] σ K := by
  refine z_ofz (lv := [(0, .ref (ad 41)), (1, .int (zI p)), (2, .int (zI g))]) (by decide) rfl (Nat.le_of_ble_eq_true rfl) ?_
  intro Γ Q cx rt
  unfold q_M_isSteep at h
  refine v_bipush cx (by decide) d_M_isSteep_0 ?_
  refine v_aload_n cx 0 d_M_isSteep_2 rfl rfl ?_
  refine v_iload_n cx 1 d_M_isSteep_3 rfl rfl ?_
  refine v_aload_n cx 0 d_M_isSteep_4 rfl rfl ?_
  refine v_iload_n cx 1 d_M_isSteep_5 rfl rfl ?_
  refine v_iload_n cx 2 d_M_isSteep_6 rfl rfl ?_
  refine v_callVi0 (st := [.int (zI p), .ref (ad 41), .int (zI 100)]) cx (s_M_beside hp hg h) yk_M_beside lk_M_102 zl_41 rfl rfl rfl (Nat.le_of_ble_eq_true rfl) ⟨Nat.le_of_ble_eq_true rfl, Nat.le_of_ble_eq_true rfl⟩ ⟨rfl, rfl⟩ ⟨(Nat.le_of_ble_eq_true rfl), (Nat.le_of_ble_eq_true rfl)⟩ d_M_isSteep_7 (fun r2 σ1 hr2 h => ?_)
  refine v_callVi0 (st := [.int (zI 100)]) cx (s_M_differ hp hr2 h) yk_M_differ lk_M_105 zl_41 rfl rfl rfl (Nat.le_of_ble_eq_true rfl) ⟨Nat.le_of_ble_eq_true rfl, Nat.le_of_ble_eq_true rfl⟩ ⟨rfl, rfl⟩ ⟨(Nat.le_of_ble_eq_true rfl), (Nat.le_of_ble_eq_true rfl)⟩ d_M_isSteep_10 (fun r4 σ3 hr4 h => ?_)
  refine v_imul cx d_M_isSteep_13 ?_
  refine v_aload_n cx 0 d_M_isSteep_14 rfl rfl ?_
  refine gf_M_7 cx d_M_isSteep_15 ?_
  refine v_iconst cx d_M_isSteep_18 ?_
  refine v_iald cx zl_42 (by decide) (by decide) (by decide) d_M_isSteep_19 (fun hl5 => ?_)
  refine v_iload_n cx 2 d_M_isSteep_20 rfl rfl ?_
  refine v_callSi0 (st := [.int (zI (σ3 42 2)), .int (zI (100 * r4))]) cx (s_M_longOf hg h) yk_M_longOf lk_M_108 rfl rfl (Nat.le_of_ble_eq_true rfl) ⟨Nat.le_of_ble_eq_true rfl, Nat.le_of_ble_eq_true rfl⟩ ⟨rfl, rfl⟩ ⟨(Nat.le_of_ble_eq_true rfl), (Nat.le_of_ble_eq_true rfl)⟩ d_M_isSteep_21 (fun r7 σ6 hr7 h => ?_)
  refine v_imul cx d_M_isSteep_24 ?_
  obtain ⟨hr8, h⟩ := h
  obtain ⟨hr9, h⟩ := h
  refine v_icmp_le cx 32 d_M_isSteep_25 (by decide) hr8 hr9 (fun c10 => ?_) (fun c10 => ?_)
  · replace h := h.1 c10
    refine v_iconst cx d_M_isSteep_32 ?_
    exact rt _ _ _ _ _ _ (Nat.le_of_ble_eq_true rfl) (Nat.le_of_ble_eq_true rfl) d_M_isSteep_33 (Or.inl rfl) h
  · replace h := h.2 c10
    refine v_iconst cx d_M_isSteep_28 ?_
    refine v_goto cx 33 d_M_isSteep_29 (by decide) ?_
    exact rt _ _ _ _ _ _ (Nat.le_of_ble_eq_true rfl) (Nat.le_of_ble_eq_true rfl) d_M_isSteep_33 (Or.inr rfl) h
def q_M_isOpen (p : Int) (g : Int) (K : Int → zS → Prop) (σ : zS) : Prop :=
  q_M_beside p g (fun r2 σ1 =>
    (r2 = (-1) →
      K 0 σ1) ∧ (r2 ≠ (-1) →
      q_M_isWet p (fun r5 σ4 =>
        (r5 ≠ 0 →
          K 0 σ4) ∧ (r5 = 0 →
          q_M_isWet r2 (fun r8 σ7 =>
            (r8 ≠ 0 →
              K 0 σ7) ∧ (r8 = 0 →
              ∃ J44 : Prop, (J44 →
                ∃ J62 : Prop, (J62 →
                  zR (Int.tmod g 2) ∧ (((Int.tmod g 2) = 0 →
                      K 1 σ7) ∧ ((Int.tmod g 2) ≠ 0 →
                      zR (g - 1) ∧ (q_M_beside p (g - 1) (fun r16 σ15 =>
                          q_M_isWet r16 (fun r18 σ17 =>
                            (r18 = 0 →
                              K 1 σ17) ∧ (r18 ≠ 0 →
                              zR (g + 1) ∧ (zR (Int.tmod (g + 1) 8) ∧ (q_M_beside p (Int.tmod (g + 1) 8) (fun r23 σ22 =>
                                    q_M_isWet r23 (fun r25 σ24 =>
                                      (r25 ≠ 0 →
                                        K 0 σ24) ∧ (r25 = 0 →
                                        K 1 σ24)) σ22) σ17)))) σ15) σ7)))) ∧
                ((p ≠ (σ7 41 29) →
                    J62) ∧ (p = (σ7 41 29) →
                    (r2 ≠ (σ7 41 28) →
                      J62) ∧ (r2 = (σ7 41 28) →
                      K 0 σ7)))) ∧
              ((p ≠ (σ7 41 28) →
                  J44) ∧ (p = (σ7 41 28) →
                  (r2 = (σ7 41 29) →
                    K 0 σ7) ∧ (r2 ≠ (σ7 41 29) →
                    J44))))) σ4)) σ1)) σ
abbrev rm_M_isOpen : Room := { frames := 2, cells := 0, slots := 0, locals := 46 }
set_option maxRecDepth 20000 in
set_option maxHeartbeats 4000000 in
theorem s_M_isOpen {Ω : zO} {ad : Nat → Nat} {p : Int} {g : Int} {K : Int → zS → Prop} {σ : zS} (hp : zR p) (hg : zR g) (h : q_M_isOpen p g K σ) : zMz Ω y_M_isOpen (.code y_M_isOpen c_M_isOpen 4 (some .boolean)) rm_M_isOpen zLy ad [.ref (ad 41), .int (zI p), .int (zI g)] σ K := by
  refine z_ofz (lv := [(0, .ref (ad 41)), (1, .int (zI p)), (2, .int (zI g))]) (by decide) rfl (Nat.le_of_ble_eq_true rfl) ?_
  intro Γ Q cx rt
  unfold q_M_isOpen at h
  refine v_aload_n cx 0 d_M_isOpen_0 rfl rfl ?_
  refine v_iload_n cx 1 d_M_isOpen_1 rfl rfl ?_
  refine v_iload_n cx 2 d_M_isOpen_2 rfl rfl ?_
  refine v_callVi0 (st := []) cx (s_M_beside hp hg h) yk_M_beside lk_M_102 zl_41 rfl rfl rfl (Nat.le_of_ble_eq_true rfl) ⟨Nat.le_of_ble_eq_true rfl, Nat.le_of_ble_eq_true rfl⟩ ⟨rfl, rfl⟩ ⟨(Nat.le_of_ble_eq_true rfl), (Nat.le_of_ble_eq_true rfl)⟩ d_M_isOpen_3 (fun r2 σ1 hr2 h => ?_)
  refine v_istore_n (lv' := [(0, .ref (ad 41)), (1, .int (zI p)), (2, .int (zI g)), (3, .int (zI r2))]) cx d_M_isOpen_6 rfl (by decide) rfl rfl ?_
  refine v_iload_n cx 3 d_M_isOpen_7 rfl rfl ?_
  refine v_iconst cx d_M_isOpen_8 ?_
  refine v_icmp_eq cx 60 d_M_isOpen_9 (by decide) hr2 ⟨by decide, by decide⟩ (fun c3 => ?_) (fun c3 => ?_)
  · replace h := h.1 c3
    refine v_iconst cx d_M_isOpen_60 ?_
    exact rt _ _ _ _ _ _ (Nat.le_of_ble_eq_true rfl) (Nat.le_of_ble_eq_true rfl) d_M_isOpen_61 (Or.inl rfl) h
  · replace h := h.2 c3
    refine v_aload_n cx 0 d_M_isOpen_12 rfl rfl ?_
    refine v_iload_n cx 1 d_M_isOpen_13 rfl rfl ?_
    refine v_callVz0 (st := []) cx (s_M_isWet hp h) yk_M_isWet lk_M_112 zl_41 rfl rfl rfl (Nat.le_of_ble_eq_true rfl) ⟨Nat.le_of_ble_eq_true rfl, Nat.le_of_ble_eq_true rfl⟩ ⟨rfl, rfl⟩ ⟨(Nat.le_of_ble_eq_true rfl), (Nat.le_of_ble_eq_true rfl)⟩ d_M_isOpen_14 (fun r5 σ4 hr5 h => ?_)
    refine v_if_ne cx 60 d_M_isOpen_17 (by decide) (zR_b hr5) (fun c6 => ?_) (fun c6 => ?_)
    · replace h := h.1 c6
      refine v_iconst cx d_M_isOpen_60 ?_
      exact rt _ _ _ _ _ _ (Nat.le_of_ble_eq_true rfl) (Nat.le_of_ble_eq_true rfl) d_M_isOpen_61 (Or.inl rfl) h
    · replace h := h.2 c6
      refine v_aload_n cx 0 d_M_isOpen_20 rfl rfl ?_
      refine v_iload_n cx 3 d_M_isOpen_21 rfl rfl ?_
      refine v_callVz0 (st := []) cx (s_M_isWet hr2 h) yk_M_isWet lk_M_112 zl_41 rfl rfl rfl (Nat.le_of_ble_eq_true rfl) ⟨Nat.le_of_ble_eq_true rfl, Nat.le_of_ble_eq_true rfl⟩ ⟨rfl, rfl⟩ ⟨(Nat.le_of_ble_eq_true rfl), (Nat.le_of_ble_eq_true rfl)⟩ d_M_isOpen_22 (fun r8 σ7 hr8 h => ?_)
      refine v_if_ne cx 60 d_M_isOpen_25 (by decide) (zR_b hr8) (fun c9 => ?_) (fun c9 => ?_)
      · replace h := h.1 c9
        refine v_iconst cx d_M_isOpen_60 ?_
        exact rt _ _ _ _ _ _ (Nat.le_of_ble_eq_true rfl) (Nat.le_of_ble_eq_true rfl) d_M_isOpen_61 (Or.inl rfl) h
      · replace h := h.2 c9
        refine v_iload_n cx 1 d_M_isOpen_28 rfl rfl ?_
        refine v_aload_n cx 0 d_M_isOpen_29 rfl rfl ?_
        refine gf_M_69 cx d_M_isOpen_30 (fun hl10 => ?_)
        obtain ⟨J44, hJ44, h⟩ := h
        have G44 : J44 → zV Ω Γ rm_M_isOpen 4 Q 0 0 zLy ad σ7 44 [(0, .ref (ad 41)), (1, .int (zI p)), (2, .int (zI g)), (3, .int (zI r2))] [] := by
          intro hJ
          replace h := hJ44 hJ
          refine v_iload_n cx 1 d_M_isOpen_44 rfl rfl ?_
          refine v_aload_n cx 0 d_M_isOpen_45 rfl rfl ?_
          refine gf_M_72 cx d_M_isOpen_46 (fun hl11 => ?_)
          obtain ⟨J62, hJ62, h⟩ := h
          have G62 : J62 → zV Ω Γ rm_M_isOpen 4 Q 0 0 zLy ad σ7 62 [(0, .ref (ad 41)), (1, .int (zI p)), (2, .int (zI g))] [] := by
            intro hJ
            replace h := hJ62 hJ
            refine v_iload_n cx 2 d_M_isOpen_62 rfl rfl ?_
            refine v_iconst cx d_M_isOpen_63 ?_
            refine v_irem cx d_M_isOpen_64 hg ⟨by decide, by decide⟩ (by decide) ?_
            obtain ⟨hr12, h⟩ := h
            refine v_if_eq cx 101 d_M_isOpen_65 (by decide) hr12 (fun c13 => ?_) (fun c13 => ?_)
            · replace h := h.1 c13
              refine v_iconst cx d_M_isOpen_101 ?_
              refine v_goto cx 106 d_M_isOpen_102 (by decide) ?_
              exact rt _ _ _ _ _ _ (Nat.le_of_ble_eq_true rfl) (Nat.le_of_ble_eq_true rfl) d_M_isOpen_106 (Or.inr rfl) h
            · replace h := h.2 c13
              refine v_aload_n cx 0 d_M_isOpen_68 rfl rfl ?_
              refine v_aload_n cx 0 d_M_isOpen_69 rfl rfl ?_
              refine v_iload_n cx 1 d_M_isOpen_70 rfl rfl ?_
              refine v_iload_n cx 2 d_M_isOpen_71 rfl rfl ?_
              refine v_iconst cx d_M_isOpen_72 ?_
              refine v_isub cx d_M_isOpen_73 ?_
              obtain ⟨hr14, h⟩ := h
              refine v_callVi0 (st := [.ref (ad 41)]) cx (s_M_beside hp hr14 h) yk_M_beside lk_M_102 zl_41 rfl rfl rfl (Nat.le_of_ble_eq_true rfl) ⟨Nat.le_of_ble_eq_true rfl, Nat.le_of_ble_eq_true rfl⟩ ⟨rfl, rfl⟩ ⟨(Nat.le_of_ble_eq_true rfl), (Nat.le_of_ble_eq_true rfl)⟩ d_M_isOpen_74 (fun r16 σ15 hr16 h => ?_)
              refine v_callVz0 (st := []) cx (s_M_isWet hr16 h) yk_M_isWet lk_M_112 zl_41 rfl rfl rfl (Nat.le_of_ble_eq_true rfl) ⟨Nat.le_of_ble_eq_true rfl, Nat.le_of_ble_eq_true rfl⟩ ⟨rfl, rfl⟩ ⟨(Nat.le_of_ble_eq_true rfl), (Nat.le_of_ble_eq_true rfl)⟩ d_M_isOpen_77 (fun r18 σ17 hr18 h => ?_)
              refine v_if_eq cx 101 d_M_isOpen_80 (by decide) (zR_b hr18) (fun c19 => ?_) (fun c19 => ?_)
              · replace h := h.1 c19
                refine v_iconst cx d_M_isOpen_101 ?_
                refine v_goto cx 106 d_M_isOpen_102 (by decide) ?_
                exact rt _ _ _ _ _ _ (Nat.le_of_ble_eq_true rfl) (Nat.le_of_ble_eq_true rfl) d_M_isOpen_106 (Or.inr rfl) h
              · replace h := h.2 c19
                refine v_aload_n cx 0 d_M_isOpen_83 rfl rfl ?_
                refine v_aload_n cx 0 d_M_isOpen_84 rfl rfl ?_
                refine v_iload_n cx 1 d_M_isOpen_85 rfl rfl ?_
                refine v_iload_n cx 2 d_M_isOpen_86 rfl rfl ?_
                refine v_iconst cx d_M_isOpen_87 ?_
                refine v_iadd cx d_M_isOpen_88 ?_
                refine v_bipush cx (by decide) d_M_isOpen_89 ?_
                obtain ⟨hr20, h⟩ := h
                refine v_irem cx d_M_isOpen_91 hr20 ⟨by decide, by decide⟩ (by decide) ?_
                obtain ⟨hr21, h⟩ := h
                refine v_callVi0 (st := [.ref (ad 41)]) cx (s_M_beside hp hr21 h) yk_M_beside lk_M_102 zl_41 rfl rfl rfl (Nat.le_of_ble_eq_true rfl) ⟨Nat.le_of_ble_eq_true rfl, Nat.le_of_ble_eq_true rfl⟩ ⟨rfl, rfl⟩ ⟨(Nat.le_of_ble_eq_true rfl), (Nat.le_of_ble_eq_true rfl)⟩ d_M_isOpen_92 (fun r23 σ22 hr23 h => ?_)
                refine v_callVz0 (st := []) cx (s_M_isWet hr23 h) yk_M_isWet lk_M_112 zl_41 rfl rfl rfl (Nat.le_of_ble_eq_true rfl) ⟨Nat.le_of_ble_eq_true rfl, Nat.le_of_ble_eq_true rfl⟩ ⟨rfl, rfl⟩ ⟨(Nat.le_of_ble_eq_true rfl), (Nat.le_of_ble_eq_true rfl)⟩ d_M_isOpen_95 (fun r25 σ24 hr25 h => ?_)
                refine v_if_ne cx 105 d_M_isOpen_98 (by decide) (zR_b hr25) (fun c26 => ?_) (fun c26 => ?_)
                · replace h := h.1 c26
                  refine v_iconst cx d_M_isOpen_105 ?_
                  exact rt _ _ _ _ _ _ (Nat.le_of_ble_eq_true rfl) (Nat.le_of_ble_eq_true rfl) d_M_isOpen_106 (Or.inl rfl) h
                · replace h := h.2 c26
                  refine v_iconst cx d_M_isOpen_101 ?_
                  refine v_goto cx 106 d_M_isOpen_102 (by decide) ?_
                  exact rt _ _ _ _ _ _ (Nat.le_of_ble_eq_true rfl) (Nat.le_of_ble_eq_true rfl) d_M_isOpen_106 (Or.inr rfl) h
          refine v_icmp_ne cx 62 d_M_isOpen_49 (by decide) hp hl11 (fun c27 => ?_) (fun c27 => ?_)
          · replace h := h.1 c27
            refine v_sb (lv' := [(0, .ref (ad 41)), (1, .int (zI p)), (2, .int (zI g))]) [0, 1, 2] rfl ?_
            have hJ2 := h
            exact G62 hJ2 
          · replace h := h.2 c27
            refine v_iload_n cx 3 d_M_isOpen_52 rfl rfl ?_
            refine v_aload_n cx 0 d_M_isOpen_53 rfl rfl ?_
            refine gf_M_69 cx d_M_isOpen_54 (fun hl28 => ?_)
            refine v_icmp_ne cx 62 d_M_isOpen_57 (by decide) hr2 hl28 (fun c29 => ?_) (fun c29 => ?_)
            · replace h := h.1 c29
              refine v_sb (lv' := [(0, .ref (ad 41)), (1, .int (zI p)), (2, .int (zI g))]) [0, 1, 2] rfl ?_
              have hJ2 := h
              exact G62 hJ2 
            · replace h := h.2 c29
              refine v_iconst cx d_M_isOpen_60 ?_
              exact rt _ _ _ _ _ _ (Nat.le_of_ble_eq_true rfl) (Nat.le_of_ble_eq_true rfl) d_M_isOpen_61 (Or.inl rfl) h
        refine v_icmp_ne cx 44 d_M_isOpen_33 (by decide) hp hl10 (fun c30 => ?_) (fun c30 => ?_)
        · replace h := h.1 c30
          have hJ2 := h
          exact G44 hJ2 
        · replace h := h.2 c30
          refine v_iload_n cx 3 d_M_isOpen_36 rfl rfl ?_
          refine v_aload_n cx 0 d_M_isOpen_37 rfl rfl ?_
          refine gf_M_72 cx d_M_isOpen_38 (fun hl31 => ?_)
          refine v_icmp_eq cx 60 d_M_isOpen_41 (by decide) hr2 hl31 (fun c32 => ?_) (fun c32 => ?_)
          · replace h := h.1 c32
            refine v_iconst cx d_M_isOpen_60 ?_
            exact rt _ _ _ _ _ _ (Nat.le_of_ble_eq_true rfl) (Nat.le_of_ble_eq_true rfl) d_M_isOpen_61 (Or.inl rfl) h
          · replace h := h.2 c32
            have hJ2 := h
            exact G44 hJ2 
def q_M_canStep (p : Int) (g : Int) (K : Int → zS → Prop) (σ : zS) : Prop :=
  q_M_isOpen p g (fun r2 σ1 =>
    (r2 = 0 →
      K 0 σ1) ∧ (r2 ≠ 0 →
      q_M_isSteep p g (fun r5 σ4 =>
        (r5 ≠ 0 →
          K 0 σ4) ∧ (r5 = 0 →
          K 1 σ4)) σ1)) σ
abbrev rm_M_canStep : Room := { frames := 3, cells := 0, slots := 0, locals := 69 }
set_option maxRecDepth 20000 in
set_option maxHeartbeats 4000000 in
theorem s_M_canStep {Ω : zO} {ad : Nat → Nat} {p : Int} {g : Int} {K : Int → zS → Prop} {σ : zS} (hp : zR p) (hg : zR g) (h : q_M_canStep p g K σ) : zMz Ω y_M_canStep (.code y_M_canStep c_M_canStep 3 (some .boolean)) rm_M_canStep zLy ad [.ref (ad 41), .int (zI p), .int (zI g)] σ K := by
  refine z_ofz (lv := [(0, .ref (ad 41)), (1, .int (zI p)), (2, .int (zI g))]) (by decide) rfl (Nat.le_of_ble_eq_true rfl) ?_
  intro Γ Q cx rt
  unfold q_M_canStep at h
  refine v_aload_n cx 0 d_M_canStep_0 rfl rfl ?_
  refine v_iload_n cx 1 d_M_canStep_1 rfl rfl ?_
  refine v_iload_n cx 2 d_M_canStep_2 rfl rfl ?_
  refine v_callVz0 (st := []) cx (s_M_isOpen hp hg h) yk_M_isOpen lk_M_116 zl_41 rfl rfl rfl (Nat.le_of_ble_eq_true rfl) ⟨Nat.le_of_ble_eq_true rfl, Nat.le_of_ble_eq_true rfl⟩ ⟨rfl, rfl⟩ ⟨(Nat.le_of_ble_eq_true rfl), (Nat.le_of_ble_eq_true rfl)⟩ d_M_canStep_3 (fun r2 σ1 hr2 h => ?_)
  refine v_if_eq cx 22 d_M_canStep_6 (by decide) (zR_b hr2) (fun c3 => ?_) (fun c3 => ?_)
  · replace h := h.1 c3
    refine v_iconst cx d_M_canStep_22 ?_
    exact rt _ _ _ _ _ _ (Nat.le_of_ble_eq_true rfl) (Nat.le_of_ble_eq_true rfl) d_M_canStep_23 (Or.inl rfl) h
  · replace h := h.2 c3
    refine v_aload_n cx 0 d_M_canStep_9 rfl rfl ?_
    refine v_iload_n cx 1 d_M_canStep_10 rfl rfl ?_
    refine v_iload_n cx 2 d_M_canStep_11 rfl rfl ?_
    refine v_callVz0 (st := []) cx (s_M_isSteep hp hg h) yk_M_isSteep lk_M_120 zl_41 rfl rfl rfl (Nat.le_of_ble_eq_true rfl) ⟨Nat.le_of_ble_eq_true rfl, Nat.le_of_ble_eq_true rfl⟩ ⟨rfl, rfl⟩ ⟨(Nat.le_of_ble_eq_true rfl), (Nat.le_of_ble_eq_true rfl)⟩ d_M_canStep_12 (fun r5 σ4 hr5 h => ?_)
    refine v_if_ne cx 22 d_M_canStep_15 (by decide) (zR_b hr5) (fun c6 => ?_) (fun c6 => ?_)
    · replace h := h.1 c6
      refine v_iconst cx d_M_canStep_22 ?_
      exact rt _ _ _ _ _ _ (Nat.le_of_ble_eq_true rfl) (Nat.le_of_ble_eq_true rfl) d_M_canStep_23 (Or.inl rfl) h
    · replace h := h.2 c6
      refine v_iconst cx d_M_canStep_18 ?_
      refine v_goto cx 23 d_M_canStep_19 (by decide) ?_
      exact rt _ _ _ _ _ _ (Nat.le_of_ble_eq_true rfl) (Nat.le_of_ble_eq_true rfl) d_M_canStep_23 (Or.inr rfl) h
def q_M_eighths (g : Int) (h_ : Int) (K : Int → zS → Prop) (σ : zS) : Prop :=
  q_M_apart g h_ (fun r2 σ1 =>
    (r2 ≤ 4 →
      K r2 σ1) ∧ (4 < r2 →
      zR (8 - r2) ∧ (K (8 - r2) σ1))) σ
abbrev rm_M_eighths : Room := { frames := 1, cells := 0, slots := 0, locals := 21 }
set_option maxRecDepth 20000 in
set_option maxHeartbeats 4000000 in
theorem s_M_eighths {Ω : zO} {ad : Nat → Nat} {g : Int} {h_ : Int} {K : Int → zS → Prop} {σ : zS} (hg : zR g) (hh_ : zR h_) (h : q_M_eighths g h_ K σ) : zMi Ω y_M_eighths (.code y_M_eighths c_M_eighths 3 (some .int)) rm_M_eighths zLy ad [.int (zI g), .int (zI h_)] σ K := by
  refine z_ofi (lv := [(0, .int (zI g)), (1, .int (zI h_))]) (by decide) rfl (Nat.le_of_ble_eq_true rfl) ?_
  intro Γ Q cx rt
  unfold q_M_eighths at h
  refine v_iload_n cx 0 d_M_eighths_0 rfl rfl ?_
  refine v_iload_n cx 1 d_M_eighths_1 rfl rfl ?_
  refine v_callSi0 (st := []) cx (s_M_apart hg hh_ h) yk_M_apart lk_M_98 rfl rfl (Nat.le_of_ble_eq_true rfl) ⟨Nat.le_of_ble_eq_true rfl, Nat.le_of_ble_eq_true rfl⟩ ⟨rfl, rfl⟩ ⟨(Nat.le_of_ble_eq_true rfl), (Nat.le_of_ble_eq_true rfl)⟩ d_M_eighths_2 (fun r2 σ1 hr2 h => ?_)
  refine v_istore_n (lv' := [(0, .int (zI g)), (1, .int (zI h_)), (2, .int (zI r2))]) cx d_M_eighths_5 rfl (by decide) rfl rfl ?_
  refine v_iload_n cx 2 d_M_eighths_6 rfl rfl ?_
  refine v_iconst cx d_M_eighths_7 ?_
  refine v_icmp_le cx 18 d_M_eighths_8 (by decide) hr2 ⟨by decide, by decide⟩ (fun c3 => ?_) (fun c3 => ?_)
  · replace h := h.1 c3
    refine v_iload_n cx 2 d_M_eighths_18 rfl rfl ?_
    exact rt _ _ _ _ _ _ (Nat.le_of_ble_eq_true rfl) (Nat.le_of_ble_eq_true rfl) d_M_eighths_19 hr2 h
  · replace h := h.2 c3
    refine v_bipush cx (by decide) d_M_eighths_11 ?_
    refine v_iload_n cx 2 d_M_eighths_13 rfl rfl ?_
    refine v_isub cx d_M_eighths_14 ?_
    refine v_goto cx 19 d_M_eighths_15 (by decide) ?_
    obtain ⟨hr4, h⟩ := h
    exact rt _ _ _ _ _ _ (Nat.le_of_ble_eq_true rfl) (Nat.le_of_ble_eq_true rfl) d_M_eighths_19 hr4 h
def q_M_isFlat (p : Int) (K : Int → zS → Prop) (σ : zS) : Prop :=
  ∃ (I2 : Int → zS → Prop) (μ2 : Int → zS → Nat), (I2 0 σ) ∧ ∀ (y1 : Int) (σ2 : zS), I2 y1 σ2 → zR y1 → 
  (8 ≤ y1 →
    K 1 σ2) ∧ (y1 < 8 →
    q_M_beside p y1 (fun r5 σ4 =>
      (r5 = (-1) →
        I2 (y1 + 1) σ4 ∧ zR (y1 + 1) ∧ μ2 (y1 + 1) σ4 < μ2 y1 σ2) ∧ (r5 ≠ (-1) →
        q_M_differ p r5 (fun r10 σ9 =>
          (r10 ≤ (σ9 42 4) →
            I2 (y1 + 1) σ9 ∧ zR (y1 + 1) ∧ μ2 (y1 + 1) σ9 < μ2 y1 σ2) ∧ ((σ9 42 4) < r10 →
            K 0 σ9)) σ4)) σ2)
abbrev rm_M_isFlat : Room := { frames := 2, cells := 0, slots := 0, locals := 46 }
set_option maxRecDepth 20000 in
set_option maxHeartbeats 4000000 in
theorem s_M_isFlat {Ω : zO} {ad : Nat → Nat} {p : Int} {K : Int → zS → Prop} {σ : zS} (hp : zR p) (h : q_M_isFlat p K σ) : zMz Ω y_M_isFlat (.code y_M_isFlat c_M_isFlat 4 (some .boolean)) rm_M_isFlat zLy ad [.ref (ad 41), .int (zI p)] σ K := by
  refine z_ofz (lv := [(0, .ref (ad 41)), (1, .int (zI p))]) (by decide) rfl (Nat.le_of_ble_eq_true rfl) ?_
  intro Γ Q cx rt
  unfold q_M_isFlat at h
  refine v_iconst cx d_M_isFlat_0 ?_
  refine v_istore_n (lv' := [(0, .ref (ad 41)), (1, .int (zI p)), (2, .int (zI 0))]) cx d_M_isFlat_1 rfl (by decide) rfl rfl ?_
  obtain ⟨I2, μ2, h0, h⟩ := h
  have L2 : ∀ (N2 : Nat) (y1 : Int) (σ2 : zS), μ2 y1 σ2 < N2 → I2 y1 σ2 → zR y1 → zV Ω Γ rm_M_isFlat 4 Q 0 0 zLy ad σ2 2 [(0, .ref (ad 41)), (1, .int (zI p)), (2, .int (zI y1))] [] := by
    intro N2
    induction N2 with
    | zero => intro y1 σ2 hm; exact absurd hm (Nat.not_lt_zero _)
    | succ N2 ih2 =>
      intro y1 σ2 hmm2 hI hy1
      replace h := h y1 σ2 hI hy1
      refine v_iload_n cx 2 d_M_isFlat_2 rfl rfl ?_
      refine v_bipush cx (by decide) d_M_isFlat_3 ?_
      refine v_icmp_ge cx 43 d_M_isFlat_5 (by decide) hy1 ⟨by decide, by decide⟩ (fun c3 => ?_) (fun c3 => ?_)
      · replace h := h.1 c3
        refine v_iconst cx d_M_isFlat_43 ?_
        exact rt _ _ _ _ _ _ (Nat.le_of_ble_eq_true rfl) (Nat.le_of_ble_eq_true rfl) d_M_isFlat_44 (Or.inr rfl) h
      · replace h := h.2 c3
        refine v_aload_n cx 0 d_M_isFlat_8 rfl rfl ?_
        refine v_iload_n cx 1 d_M_isFlat_9 rfl rfl ?_
        refine v_iload_n cx 2 d_M_isFlat_10 rfl rfl ?_
        refine v_callVi0 (st := []) cx (s_M_beside hp hy1 h) yk_M_beside lk_M_102 zl_41 rfl rfl rfl (Nat.le_of_ble_eq_true rfl) ⟨Nat.le_of_ble_eq_true rfl, Nat.le_of_ble_eq_true rfl⟩ ⟨rfl, rfl⟩ ⟨(Nat.le_of_ble_eq_true rfl), (Nat.le_of_ble_eq_true rfl)⟩ d_M_isFlat_11 (fun r5 σ4 hr5 h => ?_)
        refine v_istore_n (lv' := [(0, .ref (ad 41)), (1, .int (zI p)), (2, .int (zI y1)), (3, .int (zI r5))]) cx d_M_isFlat_14 rfl (by decide) rfl rfl ?_
        refine v_iload_n cx 3 d_M_isFlat_15 rfl rfl ?_
        refine v_iconst cx d_M_isFlat_16 ?_
        refine v_icmp_eq cx 37 d_M_isFlat_17 (by decide) hr5 ⟨by decide, by decide⟩ (fun c6 => ?_) (fun c6 => ?_)
        · replace h := h.1 c6
          refine v_iinc (lv' := [(0, .ref (ad 41)), (1, .int (zI p)), (2, .int (zI (y1 + 1))), (3, .int (zI r5))]) cx 2 d_M_isFlat_37 rfl (by decide) rfl rfl ?_
          refine v_goto cx 2 d_M_isFlat_40 (by decide) ?_
          refine v_sb (lv' := [(0, .ref (ad 41)), (1, .int (zI p)), (2, .int (zI (y1 + 1)))]) [0, 1, 2] rfl ?_
          obtain ⟨hI2, hz8, hm2⟩ := h
          exact ih2 _ _ (Nat.lt_of_lt_of_le hm2 (Nat.le_of_lt_succ hmm2)) hI2 hz8
        · replace h := h.2 c6
          refine v_aload_n cx 0 d_M_isFlat_20 rfl rfl ?_
          refine v_iload_n cx 1 d_M_isFlat_21 rfl rfl ?_
          refine v_iload_n cx 3 d_M_isFlat_22 rfl rfl ?_
          refine v_callVi0 (st := []) cx (s_M_differ hp hr5 h) yk_M_differ lk_M_105 zl_41 rfl rfl rfl (Nat.le_of_ble_eq_true rfl) ⟨Nat.le_of_ble_eq_true rfl, Nat.le_of_ble_eq_true rfl⟩ ⟨rfl, rfl⟩ ⟨(Nat.le_of_ble_eq_true rfl), (Nat.le_of_ble_eq_true rfl)⟩ d_M_isFlat_23 (fun r10 σ9 hr10 h => ?_)
          refine v_aload_n cx 0 d_M_isFlat_26 rfl rfl ?_
          refine gf_M_7 cx d_M_isFlat_27 ?_
          refine v_iconst cx d_M_isFlat_30 ?_
          refine v_iald cx zl_42 (by decide) (by decide) (by decide) d_M_isFlat_31 (fun hl11 => ?_)
          refine v_icmp_le cx 37 d_M_isFlat_32 (by decide) hr10 hl11 (fun c12 => ?_) (fun c12 => ?_)
          · replace h := h.1 c12
            refine v_iinc (lv' := [(0, .ref (ad 41)), (1, .int (zI p)), (2, .int (zI (y1 + 1))), (3, .int (zI r5))]) cx 2 d_M_isFlat_37 rfl (by decide) rfl rfl ?_
            refine v_goto cx 2 d_M_isFlat_40 (by decide) ?_
            refine v_sb (lv' := [(0, .ref (ad 41)), (1, .int (zI p)), (2, .int (zI (y1 + 1)))]) [0, 1, 2] rfl ?_
            obtain ⟨hI2, hz14, hm2⟩ := h
            exact ih2 _ _ (Nat.lt_of_lt_of_le hm2 (Nat.le_of_lt_succ hmm2)) hI2 hz14
          · replace h := h.2 c12
            refine v_iconst cx d_M_isFlat_35 ?_
            exact rt _ _ _ _ _ _ (Nat.le_of_ble_eq_true rfl) (Nat.le_of_ble_eq_true rfl) d_M_isFlat_36 (Or.inl rfl) h
  exact L2 _ _ _ (Nat.lt_succ_self _) h0 ⟨by decide, by decide⟩
def q_M_canBend (p : Int) (g : Int) (h_ : Int) (K : Int → zS → Prop) (σ : zS) : Prop :=
  q_M_eighths g h_ (fun r2 σ1 =>
    (r2 ≤ (σ1 42 3) →
      K 1 σ1) ∧ ((σ1 42 3) < r2 →
      q_M_isFlat p (fun r6 σ5 =>
        (r6 = 0 →
          K 0 σ5) ∧ (r6 ≠ 0 →
          K 1 σ5)) σ1)) σ
abbrev rm_M_canBend : Room := { frames := 3, cells := 0, slots := 0, locals := 69 }
set_option maxRecDepth 20000 in
set_option maxHeartbeats 4000000 in
theorem s_M_canBend {Ω : zO} {ad : Nat → Nat} {p : Int} {g : Int} {h_ : Int} {K : Int → zS → Prop} {σ : zS} (hp : zR p) (hg : zR g) (hh_ : zR h_) (h : q_M_canBend p g h_ K σ) : zMz Ω y_M_canBend (.code y_M_canBend c_M_canBend 4 (some .boolean)) rm_M_canBend zLy ad [.ref (ad 41), .int (zI p), .int (zI g), .int (zI h_)] σ K := by
  refine z_ofz (lv := [(0, .ref (ad 41)), (1, .int (zI p)), (2, .int (zI g)), (3, .int (zI h_))]) (by decide) rfl (Nat.le_of_ble_eq_true rfl) ?_
  intro Γ Q cx rt
  unfold q_M_canBend at h
  refine v_iload_n cx 2 d_M_canBend_0 rfl rfl ?_
  refine v_iload_n cx 3 d_M_canBend_1 rfl rfl ?_
  refine v_callSi0 (st := []) cx (s_M_eighths hg hh_ h) yk_M_eighths lk_M_123 rfl rfl (Nat.le_of_ble_eq_true rfl) ⟨Nat.le_of_ble_eq_true rfl, Nat.le_of_ble_eq_true rfl⟩ ⟨rfl, rfl⟩ ⟨(Nat.le_of_ble_eq_true rfl), (Nat.le_of_ble_eq_true rfl)⟩ d_M_canBend_2 (fun r2 σ1 hr2 h => ?_)
  refine v_aload_n cx 0 d_M_canBend_5 rfl rfl ?_
  refine gf_M_7 cx d_M_canBend_6 ?_
  refine v_iconst cx d_M_canBend_9 ?_
  refine v_iald cx zl_42 (by decide) (by decide) (by decide) d_M_canBend_10 (fun hl3 => ?_)
  refine v_icmp_le cx 22 d_M_canBend_11 (by decide) hr2 hl3 (fun c4 => ?_) (fun c4 => ?_)
  · replace h := h.1 c4
    refine v_iconst cx d_M_canBend_22 ?_
    refine v_goto cx 27 d_M_canBend_23 (by decide) ?_
    exact rt _ _ _ _ _ _ (Nat.le_of_ble_eq_true rfl) (Nat.le_of_ble_eq_true rfl) d_M_canBend_27 (Or.inr rfl) h
  · replace h := h.2 c4
    refine v_aload_n cx 0 d_M_canBend_14 rfl rfl ?_
    refine v_iload_n cx 1 d_M_canBend_15 rfl rfl ?_
    refine v_callVz0 (st := []) cx (s_M_isFlat hp h) yk_M_isFlat lk_M_126 zl_41 rfl rfl rfl (Nat.le_of_ble_eq_true rfl) ⟨Nat.le_of_ble_eq_true rfl, Nat.le_of_ble_eq_true rfl⟩ ⟨rfl, rfl⟩ ⟨(Nat.le_of_ble_eq_true rfl), (Nat.le_of_ble_eq_true rfl)⟩ d_M_canBend_16 (fun r6 σ5 hr6 h => ?_)
    refine v_if_eq cx 26 d_M_canBend_19 (by decide) (zR_b hr6) (fun c7 => ?_) (fun c7 => ?_)
    · replace h := h.1 c7
      refine v_iconst cx d_M_canBend_26 ?_
      exact rt _ _ _ _ _ _ (Nat.le_of_ble_eq_true rfl) (Nat.le_of_ble_eq_true rfl) d_M_canBend_27 (Or.inl rfl) h
    · replace h := h.2 c7
      refine v_iconst cx d_M_canBend_22 ?_
      refine v_goto cx 27 d_M_canBend_23 (by decide) ?_
      exact rt _ _ _ _ _ _ (Nat.le_of_ble_eq_true rfl) (Nat.le_of_ble_eq_true rfl) d_M_canBend_27 (Or.inr rfl) h
def q_M_bendCost (g : Int) (h_ : Int) (K : Int → zS → Prop) (σ : zS) : Prop :=
  q_M_eighths g h_ (fun r2 σ1 =>
    ((σ1 42 3) < r2 →
      K (σ1 42 7) σ1) ∧ (r2 ≤ (σ1 42 3) →
      q_M_eighths g h_ (fun r8 σ7 =>
        zR ((σ1 42 6) * r8) ∧ (K ((σ1 42 6) * r8) σ7)) σ1)) σ
abbrev rm_M_bendCost : Room := { frames := 2, cells := 0, slots := 0, locals := 43 }
set_option maxRecDepth 20000 in
set_option maxHeartbeats 4000000 in
theorem s_M_bendCost {Ω : zO} {ad : Nat → Nat} {g : Int} {h_ : Int} {K : Int → zS → Prop} {σ : zS} (hg : zR g) (hh_ : zR h_) (h : q_M_bendCost g h_ K σ) : zMi Ω y_M_bendCost (.code y_M_bendCost c_M_bendCost 3 (some .int)) rm_M_bendCost zLy ad [.ref (ad 41), .int (zI g), .int (zI h_)] σ K := by
  refine z_ofi (lv := [(0, .ref (ad 41)), (1, .int (zI g)), (2, .int (zI h_))]) (by decide) rfl (Nat.le_of_ble_eq_true rfl) ?_
  intro Γ Q cx rt
  unfold q_M_bendCost at h
  refine v_iload_n cx 1 d_M_bendCost_0 rfl rfl ?_
  refine v_iload_n cx 2 d_M_bendCost_1 rfl rfl ?_
  refine v_callSi0 (st := []) cx (s_M_eighths hg hh_ h) yk_M_eighths lk_M_123 rfl rfl (Nat.le_of_ble_eq_true rfl) ⟨Nat.le_of_ble_eq_true rfl, Nat.le_of_ble_eq_true rfl⟩ ⟨rfl, rfl⟩ ⟨(Nat.le_of_ble_eq_true rfl), (Nat.le_of_ble_eq_true rfl)⟩ d_M_bendCost_2 (fun r2 σ1 hr2 h => ?_)
  refine v_aload_n cx 0 d_M_bendCost_5 rfl rfl ?_
  refine gf_M_7 cx d_M_bendCost_6 ?_
  refine v_iconst cx d_M_bendCost_9 ?_
  refine v_iald cx zl_42 (by decide) (by decide) (by decide) d_M_bendCost_10 (fun hl3 => ?_)
  refine v_icmp_gt cx 30 d_M_bendCost_11 (by decide) hr2 hl3 (fun c4 => ?_) (fun c4 => ?_)
  · replace h := h.1 c4
    refine v_aload_n cx 0 d_M_bendCost_30 rfl rfl ?_
    refine gf_M_7 cx d_M_bendCost_31 ?_
    refine v_bipush cx (by decide) d_M_bendCost_34 ?_
    refine v_iald cx zl_42 (by decide) (by decide) (by decide) d_M_bendCost_36 (fun hl5 => ?_)
    exact rt _ _ _ _ _ _ (Nat.le_of_ble_eq_true rfl) (Nat.le_of_ble_eq_true rfl) d_M_bendCost_37 hl5 h
  · replace h := h.2 c4
    refine v_aload_n cx 0 d_M_bendCost_14 rfl rfl ?_
    refine gf_M_7 cx d_M_bendCost_15 ?_
    refine v_bipush cx (by decide) d_M_bendCost_18 ?_
    refine v_iald cx zl_42 (by decide) (by decide) (by decide) d_M_bendCost_20 (fun hl6 => ?_)
    refine v_iload_n cx 1 d_M_bendCost_21 rfl rfl ?_
    refine v_iload_n cx 2 d_M_bendCost_22 rfl rfl ?_
    refine v_callSi0 (st := [.int (zI (σ1 42 6))]) cx (s_M_eighths hg hh_ h) yk_M_eighths lk_M_123 rfl rfl (Nat.le_of_ble_eq_true rfl) ⟨Nat.le_of_ble_eq_true rfl, Nat.le_of_ble_eq_true rfl⟩ ⟨rfl, rfl⟩ ⟨(Nat.le_of_ble_eq_true rfl), (Nat.le_of_ble_eq_true rfl)⟩ d_M_bendCost_23 (fun r8 σ7 hr8 h => ?_)
    refine v_imul cx d_M_bendCost_26 ?_
    refine v_goto cx 37 d_M_bendCost_27 (by decide) ?_
    obtain ⟨hr9, h⟩ := h
    exact rt _ _ _ _ _ _ (Nat.le_of_ble_eq_true rfl) (Nat.le_of_ble_eq_true rfl) d_M_bendCost_37 hr9 h
def q_M_climb (p : Int) (q : Int) (K : Int → zS → Prop) (σ : zS) : Prop :=
  (0 ≤ 13 + q ∧ 13 + q < 499) ∧ ((0 ≤ 13 + p ∧ 13 + p < 499) ∧ (((σ 42 (13 + q)) ≤ (σ 42 (13 + p)) →
        K 0 σ) ∧ ((σ 42 (13 + p)) < (σ 42 (13 + q)) →
        zR ((σ 42 (13 + q)) - (σ 42 (13 + p))) ∧ (K ((σ 42 (13 + q)) - (σ 42 (13 + p))) σ))))
abbrev rm_M_climb : Room := { frames := 0, cells := 0, slots := 0, locals := 0 }
set_option maxRecDepth 20000 in
set_option maxHeartbeats 4000000 in
theorem s_M_climb {Ω : zO} {ad : Nat → Nat} {p : Int} {q : Int} {K : Int → zS → Prop} {σ : zS} (hp : zR p) (hq : zR q) (h : q_M_climb p q K σ) : zMi Ω y_M_climb (.code y_M_climb c_M_climb 3 (some .int)) rm_M_climb zLy ad [.ref (ad 41), .int (zI p), .int (zI q)] σ K := by
  refine z_ofi (lv := [(0, .ref (ad 41)), (1, .int (zI p)), (2, .int (zI q))]) (by decide) rfl (Nat.le_of_ble_eq_true rfl) ?_
  intro Γ Q cx rt
  unfold q_M_climb at h
  refine v_aload_n cx 0 d_M_climb_0 rfl rfl ?_
  refine gf_M_7 cx d_M_climb_1 ?_
  refine v_bipush cx (by decide) d_M_climb_4 ?_
  refine v_iload_n cx 2 d_M_climb_6 rfl rfl ?_
  refine v_iadd cx d_M_climb_7 ?_
  obtain ⟨hb1, h⟩ := h
  refine v_iald cx zl_42 (by decide) hb1.1 hb1.2 d_M_climb_8 (fun hl2 => ?_)
  refine v_aload_n cx 0 d_M_climb_9 rfl rfl ?_
  refine gf_M_7 cx d_M_climb_10 ?_
  refine v_bipush cx (by decide) d_M_climb_13 ?_
  refine v_iload_n cx 1 d_M_climb_15 rfl rfl ?_
  refine v_iadd cx d_M_climb_16 ?_
  obtain ⟨hb3, h⟩ := h
  refine v_iald cx zl_42 (by decide) hb3.1 hb3.2 d_M_climb_17 (fun hl4 => ?_)
  refine v_icmp_le cx 43 d_M_climb_18 (by decide) hl2 hl4 (fun c5 => ?_) (fun c5 => ?_)
  · replace h := h.1 c5
    refine v_iconst cx d_M_climb_43 ?_
    exact rt _ _ _ _ _ _ (Nat.le_of_ble_eq_true rfl) (Nat.le_of_ble_eq_true rfl) d_M_climb_44 ⟨by decide, by decide⟩ h
  · replace h := h.2 c5
    refine v_aload_n cx 0 d_M_climb_21 rfl rfl ?_
    refine gf_M_7 cx d_M_climb_22 ?_
    refine v_bipush cx (by decide) d_M_climb_25 ?_
    refine v_iload_n cx 2 d_M_climb_27 rfl rfl ?_
    refine v_iadd cx d_M_climb_28 ?_
    refine v_iald cx zl_42 (by decide) hb1.1 hb1.2 d_M_climb_29 (fun hl6 => ?_)
    refine v_aload_n cx 0 d_M_climb_30 rfl rfl ?_
    refine gf_M_7 cx d_M_climb_31 ?_
    refine v_bipush cx (by decide) d_M_climb_34 ?_
    refine v_iload_n cx 1 d_M_climb_36 rfl rfl ?_
    refine v_iadd cx d_M_climb_37 ?_
    refine v_iald cx zl_42 (by decide) hb3.1 hb3.2 d_M_climb_38 (fun hl7 => ?_)
    refine v_isub cx d_M_climb_39 ?_
    refine v_goto cx 44 d_M_climb_40 (by decide) ?_
    obtain ⟨hr8, h⟩ := h
    exact rt _ _ _ _ _ _ (Nat.le_of_ble_eq_true rfl) (Nat.le_of_ble_eq_true rfl) d_M_climb_44 hr8 h
def q_M_placeAt (r : Int) (k_ : Int) (K : Int → zS → Prop) (σ : zS) : Prop :=
  (0 ≤ ((175 + (81 * r)) + 1) + k_ ∧ ((175 + (81 * r)) + 1) + k_ < 499) ∧ (K (σ 42 (((175 + (81 * r)) + 1) + k_)) σ)
abbrev rm_M_placeAt : Room := { frames := 0, cells := 0, slots := 0, locals := 0 }
set_option maxRecDepth 20000 in
set_option maxHeartbeats 4000000 in
theorem s_M_placeAt {Ω : zO} {ad : Nat → Nat} {r : Int} {k_ : Int} {K : Int → zS → Prop} {σ : zS} (hr : zR r) (hk_ : zR k_) (h : q_M_placeAt r k_ K σ) : zMi Ω y_M_placeAt (.code y_M_placeAt c_M_placeAt 3 (some .int)) rm_M_placeAt zLy ad [.ref (ad 41), .int (zI r), .int (zI k_)] σ K := by
  refine z_ofi (lv := [(0, .ref (ad 41)), (1, .int (zI r)), (2, .int (zI k_))]) (by decide) rfl (Nat.le_of_ble_eq_true rfl) ?_
  intro Γ Q cx rt
  unfold q_M_placeAt at h
  refine v_aload_n cx 0 d_M_placeAt_0 rfl rfl ?_
  refine gf_M_7 cx d_M_placeAt_1 ?_
  refine v_sipush cx (by decide) d_M_placeAt_4 ?_
  refine v_bipush cx (by decide) d_M_placeAt_7 ?_
  refine v_iload_n cx 1 d_M_placeAt_9 rfl rfl ?_
  refine v_imul cx d_M_placeAt_10 ?_
  refine v_iadd cx d_M_placeAt_11 ?_
  refine v_iconst cx d_M_placeAt_12 ?_
  refine v_iadd cx d_M_placeAt_13 ?_
  refine v_iload_n cx 2 d_M_placeAt_14 rfl rfl ?_
  refine v_iadd cx d_M_placeAt_15 ?_
  obtain ⟨hb1, h⟩ := h
  refine v_iald cx zl_42 (by decide) hb1.1 hb1.2 d_M_placeAt_16 (fun hl2 => ?_)
  exact rt _ _ _ _ _ _ (Nat.le_of_ble_eq_true rfl) (Nat.le_of_ble_eq_true rfl) d_M_placeAt_17 hl2 h
def q_M_hasStep (r : Int) (until_ : Int) (a : Int) (b : Int) (K : Int → zS → Prop) (σ : zS) : Prop :=
  ∃ (I3 : Int → zS → Prop) (μ3 : Int → zS → Nat), (I3 0 σ) ∧ ∀ (y1 : Int) (σ2 : zS), I3 y1 σ2 → zR y1 → 
  (until_ ≤ y1 →
    K 0 σ2) ∧ (y1 < until_ →
    q_M_placeAt r y1 (fun r5 σ4 =>
      zR (y1 + 1) ∧ (q_M_placeAt r (y1 + 1) (fun r8 σ7 =>
          ∃ J42 : Prop, (J42 →
            (r5 ≠ b →
              I3 (y1 + 1) σ7 ∧ μ3 (y1 + 1) σ7 < μ3 y1 σ2) ∧ (r5 = b →
              (r8 ≠ a →
                I3 (y1 + 1) σ7 ∧ μ3 (y1 + 1) σ7 < μ3 y1 σ2) ∧ (r8 = a →
                K 1 σ7))) ∧
          ((r5 ≠ a →
              J42) ∧ (r5 = a →
              (r8 = b →
                K 1 σ7) ∧ (r8 ≠ b →
                J42)))) σ4)) σ2)
abbrev rm_M_hasStep : Room := { frames := 1, cells := 0, slots := 0, locals := 22 }
set_option maxRecDepth 20000 in
set_option maxHeartbeats 4000000 in
theorem s_M_hasStep {Ω : zO} {ad : Nat → Nat} {r : Int} {until_ : Int} {a : Int} {b : Int} {K : Int → zS → Prop} {σ : zS} (hr : zR r) (huntil_ : zR until_) (ha : zR a) (hb : zR b) (h : q_M_hasStep r until_ a b K σ) : zMz Ω y_M_hasStep (.code y_M_hasStep c_M_hasStep 8 (some .boolean)) rm_M_hasStep zLy ad [.ref (ad 41), .int (zI r), .int (zI until_), .int (zI a), .int (zI b)] σ K := by
  refine z_ofz (lv := [(0, .ref (ad 41)), (1, .int (zI r)), (2, .int (zI until_)), (3, .int (zI a)), (4, .int (zI b))]) (by decide) rfl (Nat.le_of_ble_eq_true rfl) ?_
  intro Γ Q cx rt
  unfold q_M_hasStep at h
  refine v_iconst cx d_M_hasStep_0 ?_
  refine v_istore (lv' := [(0, .ref (ad 41)), (1, .int (zI r)), (2, .int (zI until_)), (3, .int (zI a)), (4, .int (zI b)), (5, .int (zI 0))]) cx d_M_hasStep_1 (by decide) rfl rfl ?_
  obtain ⟨I3, μ3, h0, h⟩ := h
  have L3 : ∀ (N3 : Nat) (y1 : Int) (σ2 : zS), μ3 y1 σ2 < N3 → I3 y1 σ2 → zR y1 → zV Ω Γ rm_M_hasStep 8 Q 0 0 zLy ad σ2 3 [(0, .ref (ad 41)), (1, .int (zI r)), (2, .int (zI until_)), (3, .int (zI a)), (4, .int (zI b)), (5, .int (zI y1))] [] := by
    intro N3
    induction N3 with
    | zero => intro y1 σ2 hm; exact absurd hm (Nat.not_lt_zero _)
    | succ N3 ih3 =>
      intro y1 σ2 hmm3 hI hy1
      replace h := h y1 σ2 hI hy1
      refine v_iload cx 5 d_M_hasStep_3 rfl ?_
      refine v_iload_n cx 2 d_M_hasStep_5 rfl rfl ?_
      refine v_icmp_ge cx 63 d_M_hasStep_6 (by decide) hy1 huntil_ (fun c3 => ?_) (fun c3 => ?_)
      · replace h := h.1 c3
        refine v_iconst cx d_M_hasStep_63 ?_
        exact rt _ _ _ _ _ _ (Nat.le_of_ble_eq_true rfl) (Nat.le_of_ble_eq_true rfl) d_M_hasStep_64 (Or.inl rfl) h
      · replace h := h.2 c3
        refine v_aload_n cx 0 d_M_hasStep_9 rfl rfl ?_
        refine v_iload_n cx 1 d_M_hasStep_10 rfl rfl ?_
        refine v_iload cx 5 d_M_hasStep_11 rfl ?_
        refine v_callVi0 (st := []) cx (s_M_placeAt hr hy1 h) yk_M_placeAt lk_M_212 zl_41 rfl rfl rfl (Nat.le_of_ble_eq_true rfl) ⟨Nat.le_of_ble_eq_true rfl, Nat.le_of_ble_eq_true rfl⟩ ⟨rfl, rfl⟩ ⟨(Nat.le_of_ble_eq_true rfl), (Nat.le_of_ble_eq_true rfl)⟩ d_M_hasStep_13 (fun r5 σ4 hr5 h => ?_)
        refine v_istore (lv' := [(0, .ref (ad 41)), (1, .int (zI r)), (2, .int (zI until_)), (3, .int (zI a)), (4, .int (zI b)), (5, .int (zI y1)), (6, .int (zI r5))]) cx d_M_hasStep_16 (by decide) rfl rfl ?_
        refine v_aload_n cx 0 d_M_hasStep_18 rfl rfl ?_
        refine v_iload_n cx 1 d_M_hasStep_19 rfl rfl ?_
        refine v_iload cx 5 d_M_hasStep_20 rfl ?_
        refine v_iconst cx d_M_hasStep_22 ?_
        refine v_iadd cx d_M_hasStep_23 ?_
        obtain ⟨hr6, h⟩ := h
        refine v_callVi0 (st := []) cx (s_M_placeAt hr hr6 h) yk_M_placeAt lk_M_212 zl_41 rfl rfl rfl (Nat.le_of_ble_eq_true rfl) ⟨Nat.le_of_ble_eq_true rfl, Nat.le_of_ble_eq_true rfl⟩ ⟨rfl, rfl⟩ ⟨(Nat.le_of_ble_eq_true rfl), (Nat.le_of_ble_eq_true rfl)⟩ d_M_hasStep_24 (fun r8 σ7 hr8 h => ?_)
        refine v_istore (lv' := [(0, .ref (ad 41)), (1, .int (zI r)), (2, .int (zI until_)), (3, .int (zI a)), (4, .int (zI b)), (5, .int (zI y1)), (6, .int (zI r5)), (7, .int (zI r8))]) cx d_M_hasStep_27 (by decide) rfl rfl ?_
        refine v_iload cx 6 d_M_hasStep_29 rfl ?_
        refine v_iload_n cx 3 d_M_hasStep_31 rfl rfl ?_
        obtain ⟨J42, hJ42, h⟩ := h
        have G42 : J42 → zV Ω Γ rm_M_hasStep 8 Q 0 0 zLy ad σ7 42 [(0, .ref (ad 41)), (1, .int (zI r)), (2, .int (zI until_)), (3, .int (zI a)), (4, .int (zI b)), (5, .int (zI y1)), (6, .int (zI r5)), (7, .int (zI r8))] [] := by
          intro hJ
          replace h := hJ42 hJ
          refine v_iload cx 6 d_M_hasStep_42 rfl ?_
          refine v_iload cx 4 d_M_hasStep_44 rfl ?_
          refine v_icmp_ne cx 57 d_M_hasStep_46 (by decide) hr5 hb (fun c9 => ?_) (fun c9 => ?_)
          · replace h := h.1 c9
            refine v_iinc (lv' := [(0, .ref (ad 41)), (1, .int (zI r)), (2, .int (zI until_)), (3, .int (zI a)), (4, .int (zI b)), (5, .int (zI (y1 + 1))), (6, .int (zI r5)), (7, .int (zI r8))]) cx 5 d_M_hasStep_57 rfl (by decide) rfl rfl ?_
            refine v_goto cx 3 d_M_hasStep_60 (by decide) ?_
            refine v_sb (lv' := [(0, .ref (ad 41)), (1, .int (zI r)), (2, .int (zI until_)), (3, .int (zI a)), (4, .int (zI b)), (5, .int (zI (y1 + 1)))]) [0, 1, 2, 3, 4, 5] rfl ?_
            obtain ⟨hI2, hm2⟩ := h
            exact ih3 _ _ (Nat.lt_of_lt_of_le hm2 (Nat.le_of_lt_succ hmm3)) hI2 hr6
          · replace h := h.2 c9
            refine v_iload cx 7 d_M_hasStep_49 rfl ?_
            refine v_iload_n cx 3 d_M_hasStep_51 rfl rfl ?_
            refine v_icmp_ne cx 57 d_M_hasStep_52 (by decide) hr8 ha (fun c11 => ?_) (fun c11 => ?_)
            · replace h := h.1 c11
              refine v_iinc (lv' := [(0, .ref (ad 41)), (1, .int (zI r)), (2, .int (zI until_)), (3, .int (zI a)), (4, .int (zI b)), (5, .int (zI (y1 + 1))), (6, .int (zI r5)), (7, .int (zI r8))]) cx 5 d_M_hasStep_57 rfl (by decide) rfl rfl ?_
              refine v_goto cx 3 d_M_hasStep_60 (by decide) ?_
              refine v_sb (lv' := [(0, .ref (ad 41)), (1, .int (zI r)), (2, .int (zI until_)), (3, .int (zI a)), (4, .int (zI b)), (5, .int (zI (y1 + 1)))]) [0, 1, 2, 3, 4, 5] rfl ?_
              obtain ⟨hI2, hm2⟩ := h
              exact ih3 _ _ (Nat.lt_of_lt_of_le hm2 (Nat.le_of_lt_succ hmm3)) hI2 hr6
            · replace h := h.2 c11
              refine v_iconst cx d_M_hasStep_55 ?_
              exact rt _ _ _ _ _ _ (Nat.le_of_ble_eq_true rfl) (Nat.le_of_ble_eq_true rfl) d_M_hasStep_56 (Or.inr rfl) h
        refine v_icmp_ne cx 42 d_M_hasStep_32 (by decide) hr5 ha (fun c13 => ?_) (fun c13 => ?_)
        · replace h := h.1 c13
          have hJ2 := h
          exact G42 hJ2 
        · replace h := h.2 c13
          refine v_iload cx 7 d_M_hasStep_35 rfl ?_
          refine v_iload cx 4 d_M_hasStep_37 rfl ?_
          refine v_icmp_eq cx 55 d_M_hasStep_39 (by decide) hr8 hb (fun c14 => ?_) (fun c14 => ?_)
          · replace h := h.1 c14
            refine v_iconst cx d_M_hasStep_55 ?_
            exact rt _ _ _ _ _ _ (Nat.le_of_ble_eq_true rfl) (Nat.le_of_ble_eq_true rfl) d_M_hasStep_56 (Or.inr rfl) h
          · replace h := h.2 c14
            have hJ2 := h
            exact G42 hJ2 
  exact L3 _ _ _ (Nat.lt_succ_self _) h0 ⟨by decide, by decide⟩
def q_M_many (r : Int) (K : Int → zS → Prop) (σ : zS) : Prop :=
  (0 ≤ 175 + (81 * r) ∧ 175 + (81 * r) < 499) ∧ (K (σ 42 (175 + (81 * r))) σ)
abbrev rm_M_many : Room := { frames := 0, cells := 0, slots := 0, locals := 0 }
set_option maxRecDepth 20000 in
set_option maxHeartbeats 4000000 in
theorem s_M_many {Ω : zO} {ad : Nat → Nat} {r : Int} {K : Int → zS → Prop} {σ : zS} (hr : zR r) (h : q_M_many r K σ) : zMi Ω y_M_many (.code y_M_many c_M_many 2 (some .int)) rm_M_many zLy ad [.ref (ad 41), .int (zI r)] σ K := by
  refine z_ofi (lv := [(0, .ref (ad 41)), (1, .int (zI r))]) (by decide) rfl (Nat.le_of_ble_eq_true rfl) ?_
  intro Γ Q cx rt
  unfold q_M_many at h
  refine v_aload_n cx 0 d_M_many_0 rfl rfl ?_
  refine gf_M_7 cx d_M_many_1 ?_
  refine v_sipush cx (by decide) d_M_many_4 ?_
  refine v_bipush cx (by decide) d_M_many_7 ?_
  refine v_iload_n cx 1 d_M_many_9 rfl rfl ?_
  refine v_imul cx d_M_many_10 ?_
  refine v_iadd cx d_M_many_11 ?_
  obtain ⟨hb1, h⟩ := h
  refine v_iald cx zl_42 (by decide) hb1.1 hb1.2 d_M_many_12 (fun hl2 => ?_)
  exact rt _ _ _ _ _ _ (Nat.le_of_ble_eq_true rfl) (Nat.le_of_ble_eq_true rfl) d_M_many_13 hl2 h
def q_M_isUsed (p : Int) (q : Int) (K : Int → zS → Prop) (σ : zS) : Prop :=
  ∃ (I2 : Int → zS → Prop) (μ2 : Int → zS → Nat), (I2 0 σ) ∧ ∀ (y1 : Int) (σ2 : zS), I2 y1 σ2 → zR y1 → 
  (4 ≤ y1 →
    K 0 σ2) ∧ (y1 < 4 →
    q_M_many y1 (fun r5 σ4 =>
      zR (r5 - 1) ∧ (q_M_hasStep y1 (r5 - 1) p q (fun r8 σ7 =>
          (r8 = 0 →
            I2 (y1 + 1) σ7 ∧ zR (y1 + 1) ∧ μ2 (y1 + 1) σ7 < μ2 y1 σ2) ∧ (r8 ≠ 0 →
            K 1 σ7)) σ4)) σ2)
abbrev rm_M_isUsed : Room := { frames := 2, cells := 0, slots := 0, locals := 49 }
set_option maxRecDepth 20000 in
set_option maxHeartbeats 4000000 in
theorem s_M_isUsed {Ω : zO} {ad : Nat → Nat} {p : Int} {q : Int} {K : Int → zS → Prop} {σ : zS} (hp : zR p) (hq : zR q) (h : q_M_isUsed p q K σ) : zMz Ω y_M_isUsed (.code y_M_isUsed c_M_isUsed 4 (some .boolean)) rm_M_isUsed zLy ad [.ref (ad 41), .int (zI p), .int (zI q)] σ K := by
  refine z_ofz (lv := [(0, .ref (ad 41)), (1, .int (zI p)), (2, .int (zI q))]) (by decide) rfl (Nat.le_of_ble_eq_true rfl) ?_
  intro Γ Q cx rt
  unfold q_M_isUsed at h
  refine v_iconst cx d_M_isUsed_0 ?_
  refine v_istore_n (lv' := [(0, .ref (ad 41)), (1, .int (zI p)), (2, .int (zI q)), (3, .int (zI 0))]) cx d_M_isUsed_1 rfl (by decide) rfl rfl ?_
  obtain ⟨I2, μ2, h0, h⟩ := h
  have L2 : ∀ (N2 : Nat) (y1 : Int) (σ2 : zS), μ2 y1 σ2 < N2 → I2 y1 σ2 → zR y1 → zV Ω Γ rm_M_isUsed 4 Q 0 0 zLy ad σ2 2 [(0, .ref (ad 41)), (1, .int (zI p)), (2, .int (zI q)), (3, .int (zI y1))] [] := by
    intro N2
    induction N2 with
    | zero => intro y1 σ2 hm; exact absurd hm (Nat.not_lt_zero _)
    | succ N2 ih2 =>
      intro y1 σ2 hmm2 hI hy1
      replace h := h y1 σ2 hI hy1
      refine v_iload_n cx 3 d_M_isUsed_2 rfl rfl ?_
      refine v_iconst cx d_M_isUsed_3 ?_
      refine v_icmp_ge cx 32 d_M_isUsed_4 (by decide) hy1 ⟨by decide, by decide⟩ (fun c3 => ?_) (fun c3 => ?_)
      · replace h := h.1 c3
        refine v_iconst cx d_M_isUsed_32 ?_
        exact rt _ _ _ _ _ _ (Nat.le_of_ble_eq_true rfl) (Nat.le_of_ble_eq_true rfl) d_M_isUsed_33 (Or.inl rfl) h
      · replace h := h.2 c3
        refine v_aload_n cx 0 d_M_isUsed_7 rfl rfl ?_
        refine v_iload_n cx 3 d_M_isUsed_8 rfl rfl ?_
        refine v_aload_n cx 0 d_M_isUsed_9 rfl rfl ?_
        refine v_iload_n cx 3 d_M_isUsed_10 rfl rfl ?_
        refine v_callVi0 (st := [.int (zI y1), .ref (ad 41)]) cx (s_M_many hy1 h) yk_M_many lk_M_129 zl_41 rfl rfl rfl (Nat.le_of_ble_eq_true rfl) ⟨Nat.le_of_ble_eq_true rfl, Nat.le_of_ble_eq_true rfl⟩ ⟨rfl, rfl⟩ ⟨(Nat.le_of_ble_eq_true rfl), (Nat.le_of_ble_eq_true rfl)⟩ d_M_isUsed_11 (fun r5 σ4 hr5 h => ?_)
        refine v_iconst cx d_M_isUsed_14 ?_
        refine v_isub cx d_M_isUsed_15 ?_
        refine v_iload_n cx 1 d_M_isUsed_16 rfl rfl ?_
        refine v_iload_n cx 2 d_M_isUsed_17 rfl rfl ?_
        obtain ⟨hr6, h⟩ := h
        refine v_callVz0 (st := []) cx (s_M_hasStep hy1 hr6 hp hq h) yk_M_hasStep lk_M_132 zl_41 rfl rfl rfl (Nat.le_of_ble_eq_true rfl) ⟨Nat.le_of_ble_eq_true rfl, Nat.le_of_ble_eq_true rfl⟩ ⟨rfl, rfl⟩ ⟨(Nat.le_of_ble_eq_true rfl), (Nat.le_of_ble_eq_true rfl)⟩ d_M_isUsed_18 (fun r8 σ7 hr8 h => ?_)
        refine v_if_eq cx 26 d_M_isUsed_21 (by decide) (zR_b hr8) (fun c9 => ?_) (fun c9 => ?_)
        · replace h := h.1 c9
          refine v_iinc (lv' := [(0, .ref (ad 41)), (1, .int (zI p)), (2, .int (zI q)), (3, .int (zI (y1 + 1)))]) cx 3 d_M_isUsed_26 rfl (by decide) rfl rfl ?_
          refine v_goto cx 2 d_M_isUsed_29 (by decide) ?_
          obtain ⟨hI2, hz11, hm2⟩ := h
          exact ih2 _ _ (Nat.lt_of_lt_of_le hm2 (Nat.le_of_lt_succ hmm2)) hI2 hz11
        · replace h := h.2 c9
          refine v_iconst cx d_M_isUsed_24 ?_
          exact rt _ _ _ _ _ _ (Nat.le_of_ble_eq_true rfl) (Nat.le_of_ble_eq_true rfl) d_M_isUsed_25 (Or.inr rfl) h
  exact L2 _ _ _ (Nat.lt_succ_self _) h0 ⟨by decide, by decide⟩
theorem zto_M_stepOf_b_9 {a : Int} (h0 : a ≠ 0) (h1 : a ≠ 1) (h2 : a ≠ 2) (h3 : a ≠ 3) (h4 : a ≠ 4) : a < 0 ∨ 4 < a := by omega
def q_M_stepOf_b (p : Int) (g : Int) (kind : Int) (K : Int → zS → Prop) (σ : zS) : Prop :=
  q_M_beside p g (fun r2 σ1 =>
    (kind = 0 →
      q_M_longOf g (fun r5 σ4 =>
        q_M_differ p r2 (fun r8 σ7 =>
          zR (r5 + ((σ4 42 5) * r8)) ∧ (K (r5 + ((σ4 42 5) * r8)) σ7)) σ4) σ1) ∧ (kind = 1 →
      q_M_longOf g (fun r12 σ11 =>
        K r12 σ11) σ1) ∧ (kind = 2 →
      q_M_climb p r2 (fun r15 σ14 =>
        K r15 σ14) σ1) ∧ (kind = 3 →
      K 1 σ1) ∧ (kind = 4 →
      False) ∧ (kind ≠ 0 ∧ kind ≠ 1 ∧ kind ≠ 2 ∧ kind ≠ 3 ∧ kind ≠ 4 →
      False)) σ
abbrev rm_M_stepOf_b : Room := { frames := 2, cells := 0, slots := 0, locals := 46 }
set_option maxRecDepth 20000 in
set_option maxHeartbeats 4000000 in
theorem s_M_stepOf_b {Ω : zO} {ad : Nat → Nat} {p : Int} {g : Int} {kind : Int} {K : Int → zS → Prop} {σ : zS} (hp : zR p) (hg : zR g) (hkind : zR kind) (h : q_M_stepOf_b p g kind K σ) : zMi Ω y_M_stepOf (.code y_M_stepOf c_M_stepOf 5 (some .int)) rm_M_stepOf_b zLy ad [.ref (ad 41), .int (zI p), .int (zI g), .int (zI kind)] σ K := by
  refine z_ofi (lv := [(0, .ref (ad 41)), (1, .int (zI p)), (2, .int (zI g)), (3, .int (zI kind))]) (by decide) rfl (Nat.le_of_ble_eq_true rfl) ?_
  intro Γ Q cx rt
  unfold q_M_stepOf_b at h
  refine v_aload_n cx 0 d_M_stepOf_0 rfl rfl ?_
  refine v_iload_n cx 1 d_M_stepOf_1 rfl rfl ?_
  refine v_iload_n cx 2 d_M_stepOf_2 rfl rfl ?_
  refine v_callVi0 (st := []) cx (s_M_beside hp hg h) yk_M_beside lk_M_102 zl_41 rfl rfl rfl (Nat.le_of_ble_eq_true rfl) ⟨Nat.le_of_ble_eq_true rfl, Nat.le_of_ble_eq_true rfl⟩ ⟨rfl, rfl⟩ ⟨(Nat.le_of_ble_eq_true rfl), (Nat.le_of_ble_eq_true rfl)⟩ d_M_stepOf_3 (fun r2 σ1 hr2 h => ?_)
  refine v_istore (lv' := [(0, .ref (ad 41)), (1, .int (zI p)), (2, .int (zI g)), (3, .int (zI kind)), (4, .int (zI r2))]) cx d_M_stepOf_6 (by decide) rfl rfl ?_
  refine v_iload_n cx 3 d_M_stepOf_8 rfl rfl ?_
  by_cases c3 : kind = 0
  · replace h := h.1 c3
    refine v_tableIn cx 44 d_M_stepOf_9 hkind (by rw [c3]; decide) (by rw [c3]; decide) (by rw [c3]; rfl) (by decide) ?_
    refine v_iload_n cx 2 d_M_stepOf_44 rfl rfl ?_
    refine v_callSi0 (st := []) cx (s_M_longOf hg h) yk_M_longOf lk_M_108 rfl rfl (Nat.le_of_ble_eq_true rfl) ⟨Nat.le_of_ble_eq_true rfl, Nat.le_of_ble_eq_true rfl⟩ ⟨rfl, rfl⟩ ⟨(Nat.le_of_ble_eq_true rfl), (Nat.le_of_ble_eq_true rfl)⟩ d_M_stepOf_45 (fun r5 σ4 hr5 h => ?_)
    refine v_aload_n cx 0 d_M_stepOf_48 rfl rfl ?_
    refine gf_M_7 cx d_M_stepOf_49 ?_
    refine v_iconst cx d_M_stepOf_52 ?_
    refine v_iald cx zl_42 (by decide) (by decide) (by decide) d_M_stepOf_53 (fun hl6 => ?_)
    refine v_aload_n cx 0 d_M_stepOf_54 rfl rfl ?_
    refine v_iload_n cx 1 d_M_stepOf_55 rfl rfl ?_
    refine v_iload cx 4 d_M_stepOf_56 rfl ?_
    refine v_callVi0 (st := [.int (zI (σ4 42 5)), .int (zI r5)]) cx (s_M_differ hp hr2 h) yk_M_differ lk_M_105 zl_41 rfl rfl rfl (Nat.le_of_ble_eq_true rfl) ⟨Nat.le_of_ble_eq_true rfl, Nat.le_of_ble_eq_true rfl⟩ ⟨rfl, rfl⟩ ⟨(Nat.le_of_ble_eq_true rfl), (Nat.le_of_ble_eq_true rfl)⟩ d_M_stepOf_58 (fun r8 σ7 hr8 h => ?_)
    refine v_imul cx d_M_stepOf_61 ?_
    refine v_iadd cx d_M_stepOf_62 ?_
    obtain ⟨hr9, h⟩ := h
    exact rt _ _ _ _ _ _ (Nat.le_of_ble_eq_true rfl) (Nat.le_of_ble_eq_true rfl) d_M_stepOf_63 hr9 h
  replace h := h.2
  by_cases c10 : kind = 1
  · replace h := h.1 c10
    refine v_tableIn cx 64 d_M_stepOf_9 hkind (by rw [c10]; decide) (by rw [c10]; decide) (by rw [c10]; rfl) (by decide) ?_
    refine v_iload_n cx 2 d_M_stepOf_64 rfl rfl ?_
    refine v_callSi0 (st := []) cx (s_M_longOf hg h) yk_M_longOf lk_M_108 rfl rfl (Nat.le_of_ble_eq_true rfl) ⟨Nat.le_of_ble_eq_true rfl, Nat.le_of_ble_eq_true rfl⟩ ⟨rfl, rfl⟩ ⟨(Nat.le_of_ble_eq_true rfl), (Nat.le_of_ble_eq_true rfl)⟩ d_M_stepOf_65 (fun r12 σ11 hr12 h => ?_)
    exact rt _ _ _ _ _ _ (Nat.le_of_ble_eq_true rfl) (Nat.le_of_ble_eq_true rfl) d_M_stepOf_68 hr12 h
  replace h := h.2
  by_cases c13 : kind = 2
  · replace h := h.1 c13
    refine v_tableIn cx 69 d_M_stepOf_9 hkind (by rw [c13]; decide) (by rw [c13]; decide) (by rw [c13]; rfl) (by decide) ?_
    refine v_aload_n cx 0 d_M_stepOf_69 rfl rfl ?_
    refine v_iload_n cx 1 d_M_stepOf_70 rfl rfl ?_
    refine v_iload cx 4 d_M_stepOf_71 rfl ?_
    refine v_callVi0 (st := []) cx (s_M_climb hp hr2 h) yk_M_climb lk_M_136 zl_41 rfl rfl rfl (Nat.le_of_ble_eq_true rfl) ⟨Nat.le_of_ble_eq_true rfl, Nat.le_of_ble_eq_true rfl⟩ ⟨rfl, rfl⟩ ⟨(Nat.le_of_ble_eq_true rfl), (Nat.le_of_ble_eq_true rfl)⟩ d_M_stepOf_73 (fun r15 σ14 hr15 h => ?_)
    exact rt _ _ _ _ _ _ (Nat.le_of_ble_eq_true rfl) (Nat.le_of_ble_eq_true rfl) d_M_stepOf_76 hr15 h
  replace h := h.2
  by_cases c16 : kind = 3
  · replace h := h.1 c16
    refine v_tableIn cx 77 d_M_stepOf_9 hkind (by rw [c16]; decide) (by rw [c16]; decide) (by rw [c16]; rfl) (by decide) ?_
    refine v_iconst cx d_M_stepOf_77 ?_
    exact rt _ _ _ _ _ _ (Nat.le_of_ble_eq_true rfl) (Nat.le_of_ble_eq_true rfl) d_M_stepOf_78 ⟨by decide, by decide⟩ h
  replace h := h.2
  by_cases c17 : kind = 4
  · replace h := h.1 c17
    refine v_tableIn cx 79 d_M_stepOf_9 hkind (by rw [c17]; decide) (by rw [c17]; decide) (by rw [c17]; rfl) (by decide) ?_
    refine v_aload_n cx 0 d_M_stepOf_79 rfl rfl ?_
    refine v_iload_n cx 1 d_M_stepOf_80 rfl rfl ?_
    refine v_iload_n cx 2 d_M_stepOf_81 rfl rfl ?_
    refine v_iconst cx d_M_stepOf_82 ?_
    exact h.elim
  replace h := h.2
  replace h := h ⟨c3, c10, c13, c16, c17⟩
  refine v_tableOut cx 103 d_M_stepOf_9 hkind (zto_M_stepOf_b_9 c3 c10 c13 c16 c17) (by decide) ?_
  refine v_aload_n cx 0 d_M_stepOf_103 rfl rfl ?_
  refine v_iload_n cx 1 d_M_stepOf_104 rfl rfl ?_
  refine v_iload_n cx 2 d_M_stepOf_105 rfl rfl ?_
  refine v_iconst cx d_M_stepOf_106 ?_
  exact h.elim
theorem zto_M_stepOf_9 {a : Int} (h0 : a ≠ 0) (h1 : a ≠ 1) (h2 : a ≠ 2) (h3 : a ≠ 3) (h4 : a ≠ 4) : a < 0 ∨ 4 < a := by omega
def q_M_stepOf (p : Int) (g : Int) (kind : Int) (K : Int → zS → Prop) (σ : zS) : Prop :=
  q_M_beside p g (fun r2 σ1 =>
    (kind = 0 →
      q_M_longOf g (fun r5 σ4 =>
        q_M_differ p r2 (fun r8 σ7 =>
          zR (r5 + ((σ4 42 5) * r8)) ∧ (K (r5 + ((σ4 42 5) * r8)) σ7)) σ4) σ1) ∧ (kind = 1 →
      q_M_longOf g (fun r12 σ11 =>
        K r12 σ11) σ1) ∧ (kind = 2 →
      q_M_climb p r2 (fun r15 σ14 =>
        K r15 σ14) σ1) ∧ (kind = 3 →
      K 1 σ1) ∧ (kind = 4 →
      q_M_stepOf_b p g 0 (fun r19 σ18 =>
        q_M_isUsed p r2 (fun r21 σ20 =>
          (r21 = 0 →
            zR (Int.tdiv r19 1) ∧ (K (Int.tdiv r19 1) σ20)) ∧ (r21 ≠ 0 →
            zR (Int.tdiv r19 2) ∧ (K (Int.tdiv r19 2) σ20))) σ18) σ1) ∧ (kind ≠ 0 ∧ kind ≠ 1 ∧ kind ≠ 2 ∧ kind ≠ 3 ∧ kind ≠ 4 →
      q_M_stepOf_b p g 0 (fun r26 σ25 =>
        (0 ≤ r2 ∧ r2 < 81) ∧ (zR (r26 + (σ25 62 r2)) ∧ (K (r26 + (σ25 62 r2)) σ25))) σ1)) σ
abbrev rm_M_stepOf : Room := { frames := 3, cells := 0, slots := 0, locals := 72 }
set_option maxRecDepth 20000 in
set_option maxHeartbeats 4000000 in
theorem s_M_stepOf {Ω : zO} {ad : Nat → Nat} {p : Int} {g : Int} {kind : Int} {K : Int → zS → Prop} {σ : zS} (hp : zR p) (hg : zR g) (hkind : zR kind) (h : q_M_stepOf p g kind K σ) : zMi Ω y_M_stepOf (.code y_M_stepOf c_M_stepOf 5 (some .int)) rm_M_stepOf zLy ad [.ref (ad 41), .int (zI p), .int (zI g), .int (zI kind)] σ K := by
  refine z_ofi (lv := [(0, .ref (ad 41)), (1, .int (zI p)), (2, .int (zI g)), (3, .int (zI kind))]) (by decide) rfl (Nat.le_of_ble_eq_true rfl) ?_
  intro Γ Q cx rt
  unfold q_M_stepOf at h
  refine v_aload_n cx 0 d_M_stepOf_0 rfl rfl ?_
  refine v_iload_n cx 1 d_M_stepOf_1 rfl rfl ?_
  refine v_iload_n cx 2 d_M_stepOf_2 rfl rfl ?_
  refine v_callVi0 (st := []) cx (s_M_beside hp hg h) yk_M_beside lk_M_102 zl_41 rfl rfl rfl (Nat.le_of_ble_eq_true rfl) ⟨Nat.le_of_ble_eq_true rfl, Nat.le_of_ble_eq_true rfl⟩ ⟨rfl, rfl⟩ ⟨(Nat.le_of_ble_eq_true rfl), (Nat.le_of_ble_eq_true rfl)⟩ d_M_stepOf_3 (fun r2 σ1 hr2 h => ?_)
  refine v_istore (lv' := [(0, .ref (ad 41)), (1, .int (zI p)), (2, .int (zI g)), (3, .int (zI kind)), (4, .int (zI r2))]) cx d_M_stepOf_6 (by decide) rfl rfl ?_
  refine v_iload_n cx 3 d_M_stepOf_8 rfl rfl ?_
  by_cases c3 : kind = 0
  · replace h := h.1 c3
    refine v_tableIn cx 44 d_M_stepOf_9 hkind (by rw [c3]; decide) (by rw [c3]; decide) (by rw [c3]; rfl) (by decide) ?_
    refine v_iload_n cx 2 d_M_stepOf_44 rfl rfl ?_
    refine v_callSi0 (st := []) cx (s_M_longOf hg h) yk_M_longOf lk_M_108 rfl rfl (Nat.le_of_ble_eq_true rfl) ⟨Nat.le_of_ble_eq_true rfl, Nat.le_of_ble_eq_true rfl⟩ ⟨rfl, rfl⟩ ⟨(Nat.le_of_ble_eq_true rfl), (Nat.le_of_ble_eq_true rfl)⟩ d_M_stepOf_45 (fun r5 σ4 hr5 h => ?_)
    refine v_aload_n cx 0 d_M_stepOf_48 rfl rfl ?_
    refine gf_M_7 cx d_M_stepOf_49 ?_
    refine v_iconst cx d_M_stepOf_52 ?_
    refine v_iald cx zl_42 (by decide) (by decide) (by decide) d_M_stepOf_53 (fun hl6 => ?_)
    refine v_aload_n cx 0 d_M_stepOf_54 rfl rfl ?_
    refine v_iload_n cx 1 d_M_stepOf_55 rfl rfl ?_
    refine v_iload cx 4 d_M_stepOf_56 rfl ?_
    refine v_callVi0 (st := [.int (zI (σ4 42 5)), .int (zI r5)]) cx (s_M_differ hp hr2 h) yk_M_differ lk_M_105 zl_41 rfl rfl rfl (Nat.le_of_ble_eq_true rfl) ⟨Nat.le_of_ble_eq_true rfl, Nat.le_of_ble_eq_true rfl⟩ ⟨rfl, rfl⟩ ⟨(Nat.le_of_ble_eq_true rfl), (Nat.le_of_ble_eq_true rfl)⟩ d_M_stepOf_58 (fun r8 σ7 hr8 h => ?_)
    refine v_imul cx d_M_stepOf_61 ?_
    refine v_iadd cx d_M_stepOf_62 ?_
    obtain ⟨hr9, h⟩ := h
    exact rt _ _ _ _ _ _ (Nat.le_of_ble_eq_true rfl) (Nat.le_of_ble_eq_true rfl) d_M_stepOf_63 hr9 h
  replace h := h.2
  by_cases c10 : kind = 1
  · replace h := h.1 c10
    refine v_tableIn cx 64 d_M_stepOf_9 hkind (by rw [c10]; decide) (by rw [c10]; decide) (by rw [c10]; rfl) (by decide) ?_
    refine v_iload_n cx 2 d_M_stepOf_64 rfl rfl ?_
    refine v_callSi0 (st := []) cx (s_M_longOf hg h) yk_M_longOf lk_M_108 rfl rfl (Nat.le_of_ble_eq_true rfl) ⟨Nat.le_of_ble_eq_true rfl, Nat.le_of_ble_eq_true rfl⟩ ⟨rfl, rfl⟩ ⟨(Nat.le_of_ble_eq_true rfl), (Nat.le_of_ble_eq_true rfl)⟩ d_M_stepOf_65 (fun r12 σ11 hr12 h => ?_)
    exact rt _ _ _ _ _ _ (Nat.le_of_ble_eq_true rfl) (Nat.le_of_ble_eq_true rfl) d_M_stepOf_68 hr12 h
  replace h := h.2
  by_cases c13 : kind = 2
  · replace h := h.1 c13
    refine v_tableIn cx 69 d_M_stepOf_9 hkind (by rw [c13]; decide) (by rw [c13]; decide) (by rw [c13]; rfl) (by decide) ?_
    refine v_aload_n cx 0 d_M_stepOf_69 rfl rfl ?_
    refine v_iload_n cx 1 d_M_stepOf_70 rfl rfl ?_
    refine v_iload cx 4 d_M_stepOf_71 rfl ?_
    refine v_callVi0 (st := []) cx (s_M_climb hp hr2 h) yk_M_climb lk_M_136 zl_41 rfl rfl rfl (Nat.le_of_ble_eq_true rfl) ⟨Nat.le_of_ble_eq_true rfl, Nat.le_of_ble_eq_true rfl⟩ ⟨rfl, rfl⟩ ⟨(Nat.le_of_ble_eq_true rfl), (Nat.le_of_ble_eq_true rfl)⟩ d_M_stepOf_73 (fun r15 σ14 hr15 h => ?_)
    exact rt _ _ _ _ _ _ (Nat.le_of_ble_eq_true rfl) (Nat.le_of_ble_eq_true rfl) d_M_stepOf_76 hr15 h
  replace h := h.2
  by_cases c16 : kind = 3
  · replace h := h.1 c16
    refine v_tableIn cx 77 d_M_stepOf_9 hkind (by rw [c16]; decide) (by rw [c16]; decide) (by rw [c16]; rfl) (by decide) ?_
    refine v_iconst cx d_M_stepOf_77 ?_
    exact rt _ _ _ _ _ _ (Nat.le_of_ble_eq_true rfl) (Nat.le_of_ble_eq_true rfl) d_M_stepOf_78 ⟨by decide, by decide⟩ h
  replace h := h.2
  by_cases c17 : kind = 4
  · replace h := h.1 c17
    refine v_tableIn cx 79 d_M_stepOf_9 hkind (by rw [c17]; decide) (by rw [c17]; decide) (by rw [c17]; rfl) (by decide) ?_
    refine v_aload_n cx 0 d_M_stepOf_79 rfl rfl ?_
    refine v_iload_n cx 1 d_M_stepOf_80 rfl rfl ?_
    refine v_iload_n cx 2 d_M_stepOf_81 rfl rfl ?_
    refine v_iconst cx d_M_stepOf_82 ?_
    refine v_callVi0 (st := []) cx (s_M_stepOf_b hp hg ⟨by decide, by decide⟩ h) yk_M_stepOf lk_M_139 zl_41 rfl rfl rfl (Nat.le_of_ble_eq_true rfl) ⟨Nat.le_of_ble_eq_true rfl, Nat.le_of_ble_eq_true rfl⟩ ⟨rfl, rfl⟩ ⟨(Nat.le_of_ble_eq_true rfl), (Nat.le_of_ble_eq_true rfl)⟩ d_M_stepOf_83 (fun r19 σ18 hr19 h => ?_)
    refine v_aload_n cx 0 d_M_stepOf_86 rfl rfl ?_
    refine v_iload_n cx 1 d_M_stepOf_87 rfl rfl ?_
    refine v_iload cx 4 d_M_stepOf_88 rfl ?_
    refine v_callVz0 (st := [.int (zI r19)]) cx (s_M_isUsed hp hr2 h) yk_M_isUsed lk_M_143 zl_41 rfl rfl rfl (Nat.le_of_ble_eq_true rfl) ⟨Nat.le_of_ble_eq_true rfl, Nat.le_of_ble_eq_true rfl⟩ ⟨rfl, rfl⟩ ⟨(Nat.le_of_ble_eq_true rfl), (Nat.le_of_ble_eq_true rfl)⟩ d_M_stepOf_90 (fun r21 σ20 hr21 h => ?_)
    refine v_if_eq cx 100 d_M_stepOf_93 (by decide) (zR_b hr21) (fun c22 => ?_) (fun c22 => ?_)
    · replace h := h.1 c22
      refine v_iconst cx d_M_stepOf_100 ?_
      refine v_idiv cx d_M_stepOf_101 hr19 ⟨by decide, by decide⟩ (by decide) (Or.inr (by decide)) ?_
      obtain ⟨hr23, h⟩ := h
      exact rt _ _ _ _ _ _ (Nat.le_of_ble_eq_true rfl) (Nat.le_of_ble_eq_true rfl) d_M_stepOf_102 hr23 h
    · replace h := h.2 c22
      refine v_iconst cx d_M_stepOf_96 ?_
      refine v_goto cx 101 d_M_stepOf_97 (by decide) ?_
      refine v_idiv cx d_M_stepOf_101 hr19 ⟨by decide, by decide⟩ (by decide) (Or.inr (by decide)) ?_
      obtain ⟨hr24, h⟩ := h
      exact rt _ _ _ _ _ _ (Nat.le_of_ble_eq_true rfl) (Nat.le_of_ble_eq_true rfl) d_M_stepOf_102 hr24 h
  replace h := h.2
  replace h := h ⟨c3, c10, c13, c16, c17⟩
  refine v_tableOut cx 103 d_M_stepOf_9 hkind (zto_M_stepOf_9 c3 c10 c13 c16 c17) (by decide) ?_
  refine v_aload_n cx 0 d_M_stepOf_103 rfl rfl ?_
  refine v_iload_n cx 1 d_M_stepOf_104 rfl rfl ?_
  refine v_iload_n cx 2 d_M_stepOf_105 rfl rfl ?_
  refine v_iconst cx d_M_stepOf_106 ?_
  refine v_callVi0 (st := []) cx (s_M_stepOf_b hp hg ⟨by decide, by decide⟩ h) yk_M_stepOf lk_M_139 zl_41 rfl rfl rfl (Nat.le_of_ble_eq_true rfl) ⟨Nat.le_of_ble_eq_true rfl, Nat.le_of_ble_eq_true rfl⟩ ⟨rfl, rfl⟩ ⟨(Nat.le_of_ble_eq_true rfl), (Nat.le_of_ble_eq_true rfl)⟩ d_M_stepOf_107 (fun r26 σ25 hr26 h => ?_)
  refine v_aload_n cx 0 d_M_stepOf_110 rfl rfl ?_
  refine gf_M_81 cx d_M_stepOf_111 ?_
  refine v_iload cx 4 d_M_stepOf_114 rfl ?_
  obtain ⟨hb27, h⟩ := h
  refine v_iald cx zl_62 (by decide) hb27.1 hb27.2 d_M_stepOf_116 (fun hl28 => ?_)
  refine v_iadd cx d_M_stepOf_117 ?_
  obtain ⟨hr29, h⟩ := h
  exact rt _ _ _ _ _ _ (Nat.le_of_ble_eq_true rfl) (Nat.le_of_ble_eq_true rfl) d_M_stepOf_118 hr29 h
def q_M_bendOf (g : Int) (h_ : Int) (kind : Int) (K : Int → zS → Prop) (σ : zS) : Prop :=
  (kind = 0 →
    q_M_bendCost g h_ (fun r3 σ2 =>
      K r3 σ2) σ) ∧ (kind ≠ 0 →
    (kind < 4 →
      K 0 σ) ∧ (4 ≤ kind →
      q_M_bendCost g h_ (fun r6 σ5 =>
        K r6 σ5) σ))
abbrev rm_M_bendOf : Room := { frames := 3, cells := 0, slots := 0, locals := 65 }
set_option maxRecDepth 20000 in
set_option maxHeartbeats 4000000 in
theorem s_M_bendOf {Ω : zO} {ad : Nat → Nat} {g : Int} {h_ : Int} {kind : Int} {K : Int → zS → Prop} {σ : zS} (hg : zR g) (hh_ : zR h_) (hkind : zR kind) (h : q_M_bendOf g h_ kind K σ) : zMi Ω y_M_bendOf (.code y_M_bendOf c_M_bendOf 4 (some .int)) rm_M_bendOf zLy ad [.ref (ad 41), .int (zI g), .int (zI h_), .int (zI kind)] σ K := by
  refine z_ofi (lv := [(0, .ref (ad 41)), (1, .int (zI g)), (2, .int (zI h_)), (3, .int (zI kind))]) (by decide) rfl (Nat.le_of_ble_eq_true rfl) ?_
  intro Γ Q cx rt
  unfold q_M_bendOf at h
  refine v_iload_n cx 3 d_M_bendOf_0 rfl rfl ?_
  refine v_if_eq cx 9 d_M_bendOf_1 (by decide) hkind (fun c1 => ?_) (fun c1 => ?_)
  · replace h := h.1 c1
    refine v_aload_n cx 0 d_M_bendOf_9 rfl rfl ?_
    refine v_iload_n cx 1 d_M_bendOf_10 rfl rfl ?_
    refine v_iload_n cx 2 d_M_bendOf_11 rfl rfl ?_
    refine v_callVi0 (st := []) cx (s_M_bendCost hg hh_ h) yk_M_bendCost lk_M_146 zl_41 rfl rfl rfl (Nat.le_of_ble_eq_true rfl) ⟨Nat.le_of_ble_eq_true rfl, Nat.le_of_ble_eq_true rfl⟩ ⟨rfl, rfl⟩ ⟨(Nat.le_of_ble_eq_true rfl), (Nat.le_of_ble_eq_true rfl)⟩ d_M_bendOf_12 (fun r3 σ2 hr3 h => ?_)
    refine v_goto cx 19 d_M_bendOf_15 (by decide) ?_
    exact rt _ _ _ _ _ _ (Nat.le_of_ble_eq_true rfl) (Nat.le_of_ble_eq_true rfl) d_M_bendOf_19 hr3 h
  · replace h := h.2 c1
    refine v_iload_n cx 3 d_M_bendOf_4 rfl rfl ?_
    refine v_iconst cx d_M_bendOf_5 ?_
    refine v_icmp_lt cx 18 d_M_bendOf_6 (by decide) hkind ⟨by decide, by decide⟩ (fun c4 => ?_) (fun c4 => ?_)
    · replace h := h.1 c4
      refine v_iconst cx d_M_bendOf_18 ?_
      exact rt _ _ _ _ _ _ (Nat.le_of_ble_eq_true rfl) (Nat.le_of_ble_eq_true rfl) d_M_bendOf_19 ⟨by decide, by decide⟩ h
    · replace h := h.2 c4
      refine v_aload_n cx 0 d_M_bendOf_9 rfl rfl ?_
      refine v_iload_n cx 1 d_M_bendOf_10 rfl rfl ?_
      refine v_iload_n cx 2 d_M_bendOf_11 rfl rfl ?_
      refine v_callVi0 (st := []) cx (s_M_bendCost hg hh_ h) yk_M_bendCost lk_M_146 zl_41 rfl rfl rfl (Nat.le_of_ble_eq_true rfl) ⟨Nat.le_of_ble_eq_true rfl, Nat.le_of_ble_eq_true rfl⟩ ⟨rfl, rfl⟩ ⟨(Nat.le_of_ble_eq_true rfl), (Nat.le_of_ble_eq_true rfl)⟩ d_M_bendOf_12 (fun r6 σ5 hr6 h => ?_)
      refine v_goto cx 19 d_M_bendOf_15 (by decide) ?_
      exact rt _ _ _ _ _ _ (Nat.le_of_ble_eq_true rfl) (Nat.le_of_ble_eq_true rfl) d_M_bendOf_19 hr6 h
def q_M_isLess (a : Int) (n_ : Int) (state : Int) (K : Int → zS → Prop) (σ : zS) : Prop :=
  (0 ≤ state ∧ state < 648) ∧ ((a < (σ 51 state) →
      K 1 σ) ∧ ((σ 51 state) ≤ a →
      (a ≠ (σ 51 state) →
        K 0 σ) ∧ (a = (σ 51 state) →
        ((σ 52 state) ≤ n_ →
          K 0 σ) ∧ (n_ < (σ 52 state) →
          K 1 σ))))
abbrev rm_M_isLess : Room := { frames := 0, cells := 0, slots := 0, locals := 0 }
set_option maxRecDepth 20000 in
set_option maxHeartbeats 4000000 in
theorem s_M_isLess {Ω : zO} {ad : Nat → Nat} {a : Int} {n_ : Int} {state : Int} {K : Int → zS → Prop} {σ : zS} (ha : zR a) (hn_ : zR n_) (hstate : zR state) (h : q_M_isLess a n_ state K σ) : zMz Ω y_M_isLess (.code y_M_isLess c_M_isLess 4 (some .boolean)) rm_M_isLess zLy ad [.ref (ad 41), .int (zI a), .int (zI n_), .int (zI state)] σ K := by
  refine z_ofz (lv := [(0, .ref (ad 41)), (1, .int (zI a)), (2, .int (zI n_)), (3, .int (zI state))]) (by decide) rfl (Nat.le_of_ble_eq_true rfl) ?_
  intro Γ Q cx rt
  unfold q_M_isLess at h
  refine v_iload_n cx 1 d_M_isLess_0 rfl rfl ?_
  refine v_aload_n cx 0 d_M_isLess_1 rfl rfl ?_
  refine gf_M_41 cx d_M_isLess_2 ?_
  refine v_iload_n cx 3 d_M_isLess_5 rfl rfl ?_
  obtain ⟨hb1, h⟩ := h
  refine v_iald cx zl_51 (by decide) hb1.1 hb1.2 d_M_isLess_6 (fun hl2 => ?_)
  refine v_icmp_lt cx 30 d_M_isLess_7 (by decide) ha hl2 (fun c3 => ?_) (fun c3 => ?_)
  · replace h := h.1 c3
    refine v_iconst cx d_M_isLess_30 ?_
    refine v_goto cx 35 d_M_isLess_31 (by decide) ?_
    exact rt _ _ _ _ _ _ (Nat.le_of_ble_eq_true rfl) (Nat.le_of_ble_eq_true rfl) d_M_isLess_35 (Or.inr rfl) h
  · replace h := h.2 c3
    refine v_iload_n cx 1 d_M_isLess_10 rfl rfl ?_
    refine v_aload_n cx 0 d_M_isLess_11 rfl rfl ?_
    refine gf_M_41 cx d_M_isLess_12 ?_
    refine v_iload_n cx 3 d_M_isLess_15 rfl rfl ?_
    refine v_iald cx zl_51 (by decide) hb1.1 hb1.2 d_M_isLess_16 (fun hl4 => ?_)
    refine v_icmp_ne cx 34 d_M_isLess_17 (by decide) ha hl4 (fun c5 => ?_) (fun c5 => ?_)
    · replace h := h.1 c5
      refine v_iconst cx d_M_isLess_34 ?_
      exact rt _ _ _ _ _ _ (Nat.le_of_ble_eq_true rfl) (Nat.le_of_ble_eq_true rfl) d_M_isLess_35 (Or.inl rfl) h
    · replace h := h.2 c5
      refine v_iload_n cx 2 d_M_isLess_20 rfl rfl ?_
      refine v_aload_n cx 0 d_M_isLess_21 rfl rfl ?_
      refine gf_M_44 cx d_M_isLess_22 ?_
      refine v_iload_n cx 3 d_M_isLess_25 rfl rfl ?_
      refine v_iald cx zl_52 (by decide) hb1.1 hb1.2 d_M_isLess_26 (fun hl6 => ?_)
      refine v_icmp_ge cx 34 d_M_isLess_27 (by decide) hn_ hl6 (fun c7 => ?_) (fun c7 => ?_)
      · replace h := h.1 c7
        refine v_iconst cx d_M_isLess_34 ?_
        exact rt _ _ _ _ _ _ (Nat.le_of_ble_eq_true rfl) (Nat.le_of_ble_eq_true rfl) d_M_isLess_35 (Or.inl rfl) h
      · replace h := h.2 c7
        refine v_iconst cx d_M_isLess_30 ?_
        refine v_goto cx 35 d_M_isLess_31 (by decide) ?_
        exact rt _ _ _ _ _ _ (Nat.le_of_ble_eq_true rfl) (Nat.le_of_ble_eq_true rfl) d_M_isLess_35 (Or.inr rfl) h
