def q_R_needBuilt (road : Int) (K : zS → Prop) (X : String → zS → Prop) (σ : zS) : Prop :=
  q_L_isBuilt road (fun r2 σ1 =>
    (r2 ≠ 0 →
      K σ1) ∧ (r2 = 0 →
      X "java/lang/IllegalStateException" σ1)) σ
abbrev rm_R_needBuilt : Room := { frames := 6, cells := 1, slots := 6, locals := 100 }
set_option maxRecDepth 20000 in
set_option maxHeartbeats 4000000 in
theorem s_R_needBuilt {Ω : zO} {ad : Nat → Nat} {road : Int} {K : zS → Prop} {X : String → zS → Prop} {σ : zS} (hroad : zR road) (h : q_R_needBuilt road K X σ) : zXv Ω y_R_needBuilt (.code y_R_needBuilt c_R_needBuilt 2 none) rm_R_needBuilt zLy ad [.ref (ad 0), .int (zI road)] σ K X := by
  refine z_ofXv (lv := [(0, .ref (ad 0)), (1, .int (zI road))]) (by decide) rfl (Nat.le_of_ble_eq_true rfl) ?_
  intro Γ Q cx rt th out
  unfold q_R_needBuilt at h
  refine v_aload_n cx 0 d_R_needBuilt_0 rfl rfl ?_
  refine gf_R_19 cx d_R_needBuilt_1 ?_
  refine v_iload_n cx 1 d_R_needBuilt_4 rfl rfl ?_
  refine v_callVz0 (st := []) cx (s_L_isBuilt hroad h) yk_L_isBuilt lk_R_344 zl_3 rfl rfl rfl (Nat.le_of_ble_eq_true rfl) ⟨Nat.le_of_ble_eq_true rfl, Nat.le_of_ble_eq_true rfl⟩ ⟨rfl, rfl⟩ ⟨(Nat.le_of_ble_eq_true rfl), (Nat.le_of_ble_eq_true rfl)⟩ d_R_needBuilt_5 (fun r2 σ1 hr2 h => ?_)
  refine v_if_ne cx 22 d_R_needBuilt_8 (by decide) (zR_b hr2) (fun c3 => ?_) (fun c3 => ?_)
  · replace h := h.1 c3
    exact rt _ _ _ _ _ (Nat.le_of_ble_eq_true rfl) (Nat.le_of_ble_eq_true rfl) d_R_needBuilt_22 h
  · replace h := h.2 c3
    exact th _ _ _ _ _ _ 196 347 200 30 _ _ _ (Or.inl ztw_1) zsr_30 d_R_needBuilt_11 d_R_needBuilt_14 (Or.inr ⟨d_R_needBuilt_15, d_R_needBuilt_18, d_R_needBuilt_21⟩) (Nat.le_of_ble_eq_true rfl) (Nat.le_of_ble_eq_true rfl) (Nat.le_of_ble_eq_true rfl) (Nat.le_of_ble_eq_true rfl) h
def q_R_drop (road : Int) (K : Int → zS → Prop) (X : String → zS → Prop) (σ : zS) : Prop :=
  q_R_needRoad road (fun σ1 =>
    q_R_needBuilt road (fun σ2 =>
      q_L_roadSize road (fun r4 σ3 =>
        q_R_remember (fun σ5 =>
          q_L_clearRoad road (fun σ6 =>
            K r4 σ6) σ5) σ3) σ2) X σ1) X σ
abbrev rm_R_drop : Room := { frames := 7, cells := 2, slots := 12, locals := 123 }
set_option maxRecDepth 20000 in
set_option maxHeartbeats 4000000 in
theorem s_R_drop {Ω : zO} {ad : Nat → Nat} {road : Int} {K : Int → zS → Prop} {X : String → zS → Prop} {σ : zS} (hroad : zR road) (h : q_R_drop road K X σ) : zXi Ω y_R_drop (.code y_R_drop c_R_drop 3 (some .int)) rm_R_drop zLy ad [.ref (ad 0), .int (zI road)] σ K X := by
  refine z_ofXi (lv := [(0, .ref (ad 0)), (1, .int (zI road))]) (by decide) rfl (Nat.le_of_ble_eq_true rfl) ?_
  intro Γ Q cx rt th out
  unfold q_R_drop at h
  refine v_aload_n cx 0 d_R_drop_0 rfl rfl ?_
  refine v_iload_n cx 1 d_R_drop_1 rfl rfl ?_
  refine v_xcallv (st := []) cx (s_R_needRoad hroad h) yk_R_needRoad lk_R_180 zl_0 rfl rfl rfl (Nat.le_of_ble_eq_true rfl) ⟨Nat.le_of_ble_eq_true rfl, Nat.le_of_ble_eq_true rfl⟩ ⟨(Nat.le_of_ble_eq_true rfl), (Nat.le_of_ble_eq_true rfl)⟩ d_R_drop_2 (fun σ1 h => ?_) (fun E σ1 hX => out _ _ _ _ _ _ (Nat.le_of_ble_eq_true rfl) (Nat.le_of_ble_eq_true rfl) hX)
  refine v_widen (k' := 1) (n' := 6) (Nat.le_of_ble_eq_true rfl) (Nat.le_of_ble_eq_true rfl) ?_
  refine v_aload_n cx 0 d_R_drop_5 rfl rfl ?_
  refine v_iload_n cx 1 d_R_drop_6 rfl rfl ?_
  refine v_xcallv (st := []) cx (s_R_needBuilt hroad h) yk_R_needBuilt lk_R_208 zl_0 rfl rfl rfl (Nat.le_of_ble_eq_true rfl) ⟨Nat.le_of_ble_eq_true rfl, Nat.le_of_ble_eq_true rfl⟩ ⟨(Nat.le_of_ble_eq_true rfl), (Nat.le_of_ble_eq_true rfl)⟩ d_R_drop_7 (fun σ2 h => ?_) (fun E σ1 hX => out _ _ _ _ _ _ (Nat.le_of_ble_eq_true rfl) (Nat.le_of_ble_eq_true rfl) hX)
  refine v_widen (k' := 2) (n' := 12) (Nat.le_of_ble_eq_true rfl) (Nat.le_of_ble_eq_true rfl) ?_
  refine v_aload_n cx 0 d_R_drop_10 rfl rfl ?_
  refine gf_R_19 cx d_R_drop_11 ?_
  refine v_iload_n cx 1 d_R_drop_14 rfl rfl ?_
  refine v_callVi0 (st := []) cx (s_L_roadSize hroad h) yk_L_roadSize lk_R_211 zl_3 rfl rfl rfl (Nat.le_of_ble_eq_true rfl) ⟨Nat.le_of_ble_eq_true rfl, Nat.le_of_ble_eq_true rfl⟩ ⟨rfl, rfl⟩ ⟨(Nat.le_of_ble_eq_true rfl), (Nat.le_of_ble_eq_true rfl)⟩ d_R_drop_15 (fun r4 σ3 hr4 h => ?_)
  refine v_istore_n (lv' := [(0, .ref (ad 0)), (1, .int (zI road)), (2, .int (zI r4))]) cx d_R_drop_18 rfl (by decide) rfl rfl ?_
  refine v_aload_n cx 0 d_R_drop_19 rfl rfl ?_
  refine v_callVv0 (st := []) cx (s_R_remember  h) yk_R_remember lk_R_167 zl_0 rfl rfl rfl (Nat.le_of_ble_eq_true rfl) ⟨Nat.le_of_ble_eq_true rfl, Nat.le_of_ble_eq_true rfl⟩ ⟨rfl, rfl⟩ ⟨(Nat.le_of_ble_eq_true rfl), (Nat.le_of_ble_eq_true rfl)⟩ d_R_drop_20 (fun σ5 h => ?_)
  refine v_aload_n cx 0 d_R_drop_23 rfl rfl ?_
  refine gf_R_19 cx d_R_drop_24 ?_
  refine v_iload_n cx 1 d_R_drop_27 rfl rfl ?_
  refine v_callVv0 (st := []) cx (s_L_clearRoad hroad h) yk_L_clearRoad lk_R_214 zl_3 rfl rfl rfl (Nat.le_of_ble_eq_true rfl) ⟨Nat.le_of_ble_eq_true rfl, Nat.le_of_ble_eq_true rfl⟩ ⟨rfl, rfl⟩ ⟨(Nat.le_of_ble_eq_true rfl), (Nat.le_of_ble_eq_true rfl)⟩ d_R_drop_28 (fun σ6 h => ?_)
  refine v_iload_n cx 2 d_R_drop_31 rfl rfl ?_
  exact rt _ _ _ _ _ _ (Nat.le_of_ble_eq_true rfl) (Nat.le_of_ble_eq_true rfl) d_R_drop_32 hr4 h
def q_R_level (road : Int) (rule : Int) (K : Int → zS → Prop) (X : String → zS → Prop) (σ : zS) : Prop :=
  q_R_needRoad road (fun σ1 =>
    q_R_needNumber rule 0 99 (fun σ2 =>
      q_R_needBuilt road (fun σ3 =>
        q_G_leastEarth road rule (fun r5 σ4 =>
          (r5 ≠ (-1) →
            q_R_remember (fun σ7 =>
              q_G_settle road (fun σ8 =>
                K r5 σ8) σ7) σ4) ∧ (r5 = (-1) →
            X "java/lang/IllegalStateException" σ4)) σ3) X σ2) X σ1) X σ
abbrev rm_R_level : Room := { frames := 7, cells := 4, slots := 24, locals := 123 }
set_option maxRecDepth 20000 in
set_option maxHeartbeats 4000000 in
theorem s_R_level {Ω : zO} {ad : Nat → Nat} {road : Int} {rule : Int} {K : Int → zS → Prop} {X : String → zS → Prop} {σ : zS} (hroad : zR road) (hrule : zR rule) (h : q_R_level road rule K X σ) : zXi Ω y_R_level (.code y_R_level c_R_level 4 (some .int)) rm_R_level zLy ad [.ref (ad 0), .int (zI road), .int (zI rule)] σ K X := by
  refine z_ofXi (lv := [(0, .ref (ad 0)), (1, .int (zI road)), (2, .int (zI rule))]) (by decide) rfl (Nat.le_of_ble_eq_true rfl) ?_
  intro Γ Q cx rt th out
  unfold q_R_level at h
  refine v_aload_n cx 0 d_R_level_0 rfl rfl ?_
  refine v_iload_n cx 1 d_R_level_1 rfl rfl ?_
  refine v_xcallv (st := []) cx (s_R_needRoad hroad h) yk_R_needRoad lk_R_180 zl_0 rfl rfl rfl (Nat.le_of_ble_eq_true rfl) ⟨Nat.le_of_ble_eq_true rfl, Nat.le_of_ble_eq_true rfl⟩ ⟨(Nat.le_of_ble_eq_true rfl), (Nat.le_of_ble_eq_true rfl)⟩ d_R_level_2 (fun σ1 h => ?_) (fun E σ1 hX => out _ _ _ _ _ _ (Nat.le_of_ble_eq_true rfl) (Nat.le_of_ble_eq_true rfl) hX)
  refine v_widen (k' := 1) (n' := 6) (Nat.le_of_ble_eq_true rfl) (Nat.le_of_ble_eq_true rfl) ?_
  refine v_aload_n cx 0 d_R_level_5 rfl rfl ?_
  refine v_iload_n cx 2 d_R_level_6 rfl rfl ?_
  refine v_iconst cx d_R_level_7 ?_
  refine v_bipush cx (by decide) d_R_level_8 ?_
  refine v_xcallv (st := []) cx (s_R_needNumber hrule ⟨by decide, by decide⟩ ⟨by decide, by decide⟩ h) yk_R_needNumber lk_R_163 zl_0 rfl rfl rfl (Nat.le_of_ble_eq_true rfl) ⟨Nat.le_of_ble_eq_true rfl, Nat.le_of_ble_eq_true rfl⟩ ⟨(Nat.le_of_ble_eq_true rfl), (Nat.le_of_ble_eq_true rfl)⟩ d_R_level_10 (fun σ2 h => ?_) (fun E σ1 hX => out _ _ _ _ _ _ (Nat.le_of_ble_eq_true rfl) (Nat.le_of_ble_eq_true rfl) hX)
  refine v_widen (k' := 2) (n' := 12) (Nat.le_of_ble_eq_true rfl) (Nat.le_of_ble_eq_true rfl) ?_
  refine v_aload_n cx 0 d_R_level_13 rfl rfl ?_
  refine v_iload_n cx 1 d_R_level_14 rfl rfl ?_
  refine v_xcallv (st := []) cx (s_R_needBuilt hroad h) yk_R_needBuilt lk_R_208 zl_0 rfl rfl rfl (Nat.le_of_ble_eq_true rfl) ⟨Nat.le_of_ble_eq_true rfl, Nat.le_of_ble_eq_true rfl⟩ ⟨(Nat.le_of_ble_eq_true rfl), (Nat.le_of_ble_eq_true rfl)⟩ d_R_level_15 (fun σ3 h => ?_) (fun E σ1 hX => out _ _ _ _ _ _ (Nat.le_of_ble_eq_true rfl) (Nat.le_of_ble_eq_true rfl) hX)
  refine v_widen (k' := 3) (n' := 18) (Nat.le_of_ble_eq_true rfl) (Nat.le_of_ble_eq_true rfl) ?_
  refine v_aload_n cx 0 d_R_level_18 rfl rfl ?_
  refine gf_R_69 cx d_R_level_19 ?_
  refine v_iload_n cx 1 d_R_level_22 rfl rfl ?_
  refine v_iload_n cx 2 d_R_level_23 rfl rfl ?_
  refine v_callVi0 (st := []) cx (s_G_leastEarth hroad hrule h) yk_G_leastEarth lk_R_217 zl_35 rfl rfl rfl (Nat.le_of_ble_eq_true rfl) ⟨Nat.le_of_ble_eq_true rfl, Nat.le_of_ble_eq_true rfl⟩ ⟨rfl, rfl⟩ ⟨(Nat.le_of_ble_eq_true rfl), (Nat.le_of_ble_eq_true rfl)⟩ d_R_level_24 (fun r5 σ4 hr5 h => ?_)
  refine v_istore_n (lv' := [(0, .ref (ad 0)), (1, .int (zI road)), (2, .int (zI rule)), (3, .int (zI r5))]) cx d_R_level_27 rfl (by decide) rfl rfl ?_
  refine v_iload_n cx 3 d_R_level_28 rfl rfl ?_
  refine v_iconst cx d_R_level_29 ?_
  refine v_icmp_ne cx 43 d_R_level_30 (by decide) hr5 ⟨by decide, by decide⟩ (fun c6 => ?_) (fun c6 => ?_)
  · replace h := h.1 c6
    refine v_aload_n cx 0 d_R_level_43 rfl rfl ?_
    refine v_callVv0 (st := []) cx (s_R_remember  h) yk_R_remember lk_R_167 zl_0 rfl rfl rfl (Nat.le_of_ble_eq_true rfl) ⟨Nat.le_of_ble_eq_true rfl, Nat.le_of_ble_eq_true rfl⟩ ⟨rfl, rfl⟩ ⟨(Nat.le_of_ble_eq_true rfl), (Nat.le_of_ble_eq_true rfl)⟩ d_R_level_44 (fun σ7 h => ?_)
    refine v_aload_n cx 0 d_R_level_47 rfl rfl ?_
    refine gf_R_69 cx d_R_level_48 ?_
    refine v_iload_n cx 1 d_R_level_51 rfl rfl ?_
    refine v_callVv0 (st := []) cx (s_G_settle hroad h) yk_G_settle lk_R_223 zl_35 rfl rfl rfl (Nat.le_of_ble_eq_true rfl) ⟨Nat.le_of_ble_eq_true rfl, Nat.le_of_ble_eq_true rfl⟩ ⟨rfl, rfl⟩ ⟨(Nat.le_of_ble_eq_true rfl), (Nat.le_of_ble_eq_true rfl)⟩ d_R_level_52 (fun σ8 h => ?_)
    refine v_iload_n cx 3 d_R_level_55 rfl rfl ?_
    exact rt _ _ _ _ _ _ (Nat.le_of_ble_eq_true rfl) (Nat.le_of_ble_eq_true rfl) d_R_level_56 hr5 h
  · replace h := h.2 c6
    exact th _ _ _ _ _ _ 196 221 200 31 _ _ _ (Or.inl ztw_1) zsr_31 d_R_level_33 d_R_level_36 (Or.inl ⟨d_R_level_37, d_R_level_39, d_R_level_42⟩) (Nat.le_of_ble_eq_true rfl) (Nat.le_of_ble_eq_true rfl) (Nat.le_of_ble_eq_true rfl) (Nat.le_of_ble_eq_true rfl) h
def q_R_undo (K : Int → zS → Prop) (X : String → zS → Prop) (σ : zS) : Prop :=
  q_P_size (fun r2 σ1 =>
    (r2 ≠ 0 →
      q_P_takeBack (fun σ4 =>
        q_P_size (fun r6 σ5 =>
          K r6 σ5) σ4) σ1) ∧ (r2 = 0 →
      X "java/lang/IllegalStateException" σ1)) σ
abbrev rm_R_undo : Room := { frames := 6, cells := 1, slots := 6, locals := 111 }
set_option maxRecDepth 20000 in
set_option maxHeartbeats 4000000 in
theorem s_R_undo {Ω : zO} {ad : Nat → Nat} {K : Int → zS → Prop} {X : String → zS → Prop} {σ : zS}  (h : q_R_undo K X σ) : zXi Ω y_R_undo (.code y_R_undo c_R_undo 1 (some .int)) rm_R_undo zLy ad [.ref (ad 0)] σ K X := by
  refine z_ofXi (lv := [(0, .ref (ad 0))]) (by decide) rfl (Nat.le_of_ble_eq_true rfl) ?_
  intro Γ Q cx rt th out
  unfold q_R_undo at h
  refine v_aload_n cx 0 d_R_undo_0 rfl rfl ?_
  refine gf_R_35 cx d_R_undo_1 ?_
  refine v_callVi0 (st := []) cx (s_P_size  h) yk_P_size lk_R_226 zl_9 rfl rfl rfl (Nat.le_of_ble_eq_true rfl) ⟨Nat.le_of_ble_eq_true rfl, Nat.le_of_ble_eq_true rfl⟩ ⟨rfl, rfl⟩ ⟨(Nat.le_of_ble_eq_true rfl), (Nat.le_of_ble_eq_true rfl)⟩ d_R_undo_4 (fun r2 σ1 hr2 h => ?_)
  refine v_if_ne cx 20 d_R_undo_7 (by decide) hr2 (fun c3 => ?_) (fun c3 => ?_)
  · replace h := h.1 c3
    refine v_aload_n cx 0 d_R_undo_20 rfl rfl ?_
    refine gf_R_35 cx d_R_undo_21 ?_
    refine v_aload_n cx 0 d_R_undo_24 rfl rfl ?_
    refine gf_R_19 cx d_R_undo_25 ?_
    refine v_callVv0 (st := []) cx (s_P_takeBack  h) yk_P_takeBack lk_R_229 zl_9 rfl rfl rfl (Nat.le_of_ble_eq_true rfl) ⟨Nat.le_of_ble_eq_true rfl, Nat.le_of_ble_eq_true rfl⟩ ⟨rfl, rfl⟩ ⟨(Nat.le_of_ble_eq_true rfl), (Nat.le_of_ble_eq_true rfl)⟩ d_R_undo_28 (fun σ4 h => ?_)
    refine v_aload_n cx 0 d_R_undo_31 rfl rfl ?_
    refine gf_R_35 cx d_R_undo_32 ?_
    refine v_callVi0 (st := []) cx (s_P_size  h) yk_P_size lk_R_226 zl_9 rfl rfl rfl (Nat.le_of_ble_eq_true rfl) ⟨Nat.le_of_ble_eq_true rfl, Nat.le_of_ble_eq_true rfl⟩ ⟨rfl, rfl⟩ ⟨(Nat.le_of_ble_eq_true rfl), (Nat.le_of_ble_eq_true rfl)⟩ d_R_undo_35 (fun r6 σ5 hr6 h => ?_)
    exact rt _ _ _ _ _ _ (Nat.le_of_ble_eq_true rfl) (Nat.le_of_ble_eq_true rfl) d_R_undo_38 hr6 h
  · replace h := h.2 c3
    exact th _ _ _ _ _ _ 196 227 200 32 _ _ _ (Or.inl ztw_1) zsr_32 d_R_undo_10 d_R_undo_13 (Or.inl ⟨d_R_undo_14, d_R_undo_16, d_R_undo_19⟩) (Nat.le_of_ble_eq_true rfl) (Nat.le_of_ble_eq_true rfl) (Nat.le_of_ble_eq_true rfl) (Nat.le_of_ble_eq_true rfl) h
def q_R_best (from_ : Int) (to_ : Int) (kind : Int) (K : Int → zS → Prop) (X : String → zS → Prop) (σ : zS) : Prop :=
  q_R_needPair from_ to_ (fun σ1 =>
    q_R_needAnswer kind 6 (fun σ2 =>
      q_R_needUnlike from_ to_ (fun σ3 =>
        q_W_measure from_ to_ kind (fun r5 σ4 =>
          K r5 σ4) σ3) X σ2) X σ1) X σ
abbrev rm_R_best : Room := { frames := 8, cells := 4, slots := 24, locals := 143 }
set_option maxRecDepth 20000 in
set_option maxHeartbeats 4000000 in
theorem s_R_best {Ω : zO} {ad : Nat → Nat} {from_ : Int} {to_ : Int} {kind : Int} {K : Int → zS → Prop} {X : String → zS → Prop} {σ : zS} (hfrom_ : zR from_) (hto_ : zR to_) (hkind : zR kind) (h : q_R_best from_ to_ kind K X σ) : zXi Ω y_R_best (.code y_R_best c_R_best 4 (some .int)) rm_R_best zLy ad [.ref (ad 0), .int (zI from_), .int (zI to_), .int (zI kind)] σ K X := by
  refine z_ofXi (lv := [(0, .ref (ad 0)), (1, .int (zI from_)), (2, .int (zI to_)), (3, .int (zI kind))]) (by decide) rfl (Nat.le_of_ble_eq_true rfl) ?_
  intro Γ Q cx rt th out
  unfold q_R_best at h
  refine v_aload_n cx 0 d_R_best_0 rfl rfl ?_
  refine v_iload_n cx 1 d_R_best_1 rfl rfl ?_
  refine v_iload_n cx 2 d_R_best_2 rfl rfl ?_
  refine v_xcallv (st := []) cx (s_R_needPair hfrom_ hto_ h) yk_R_needPair lk_R_183 zl_0 rfl rfl rfl (Nat.le_of_ble_eq_true rfl) ⟨Nat.le_of_ble_eq_true rfl, Nat.le_of_ble_eq_true rfl⟩ ⟨(Nat.le_of_ble_eq_true rfl), (Nat.le_of_ble_eq_true rfl)⟩ d_R_best_3 (fun σ1 h => ?_) (fun E σ1 hX => out _ _ _ _ _ _ (Nat.le_of_ble_eq_true rfl) (Nat.le_of_ble_eq_true rfl) hX)
  refine v_widen (k' := 2) (n' := 12) (Nat.le_of_ble_eq_true rfl) (Nat.le_of_ble_eq_true rfl) ?_
  refine v_aload_n cx 0 d_R_best_6 rfl rfl ?_
  refine v_iload_n cx 3 d_R_best_7 rfl rfl ?_
  refine v_bipush cx (by decide) d_R_best_8 ?_
  refine v_xcallv (st := []) cx (s_R_needAnswer hkind ⟨by decide, by decide⟩ h) yk_R_needAnswer lk_R_137 zl_0 rfl rfl rfl (Nat.le_of_ble_eq_true rfl) ⟨Nat.le_of_ble_eq_true rfl, Nat.le_of_ble_eq_true rfl⟩ ⟨(Nat.le_of_ble_eq_true rfl), (Nat.le_of_ble_eq_true rfl)⟩ d_R_best_10 (fun σ2 h => ?_) (fun E σ1 hX => out _ _ _ _ _ _ (Nat.le_of_ble_eq_true rfl) (Nat.le_of_ble_eq_true rfl) hX)
  refine v_widen (k' := 3) (n' := 18) (Nat.le_of_ble_eq_true rfl) (Nat.le_of_ble_eq_true rfl) ?_
  refine v_aload_n cx 0 d_R_best_13 rfl rfl ?_
  refine v_iload_n cx 1 d_R_best_14 rfl rfl ?_
  refine v_iload_n cx 2 d_R_best_15 rfl rfl ?_
  refine v_xcallv (st := []) cx (s_R_needUnlike hfrom_ hto_ h) yk_R_needUnlike lk_R_186 zl_0 rfl rfl rfl (Nat.le_of_ble_eq_true rfl) ⟨Nat.le_of_ble_eq_true rfl, Nat.le_of_ble_eq_true rfl⟩ ⟨(Nat.le_of_ble_eq_true rfl), (Nat.le_of_ble_eq_true rfl)⟩ d_R_best_16 (fun σ3 h => ?_) (fun E σ1 hX => out _ _ _ _ _ _ (Nat.le_of_ble_eq_true rfl) (Nat.le_of_ble_eq_true rfl) hX)
  refine v_widen (k' := 4) (n' := 24) (Nat.le_of_ble_eq_true rfl) (Nat.le_of_ble_eq_true rfl) ?_
  refine v_aload_n cx 0 d_R_best_19 rfl rfl ?_
  refine gf_R_53 cx d_R_best_20 ?_
  refine v_iload_n cx 1 d_R_best_23 rfl rfl ?_
  refine v_iload_n cx 2 d_R_best_24 rfl rfl ?_
  refine v_iload_n cx 3 d_R_best_25 rfl rfl ?_
  refine v_callVi0 (st := []) cx (s_W_measure hfrom_ hto_ hkind h) yk_W_measure lk_R_232 zl_15 rfl rfl rfl (Nat.le_of_ble_eq_true rfl) ⟨Nat.le_of_ble_eq_true rfl, Nat.le_of_ble_eq_true rfl⟩ ⟨rfl, rfl⟩ ⟨(Nat.le_of_ble_eq_true rfl), (Nat.le_of_ble_eq_true rfl)⟩ d_R_best_26 (fun r5 σ4 hr5 h => ?_)
  exact rt _ _ _ _ _ _ (Nat.le_of_ble_eq_true rfl) (Nat.le_of_ble_eq_true rfl) d_R_best_29 hr5 h
def q_R_along (from_ : Int) (to_ : Int) (kind : Int) (k_ : Int) (K : Int → zS → Prop) (X : String → zS → Prop) (σ : zS) : Prop :=
  q_R_needPair from_ to_ (fun σ1 =>
    q_R_needAnswer kind 6 (fun σ2 =>
      q_R_needUnlike from_ to_ (fun σ3 =>
        q_W_find from_ to_ kind (fun r5 σ4 =>
          (k_ < 0 →
            K (-1) σ4) ∧ (0 ≤ k_ →
            q_W_pathSize (fun r8 σ7 =>
              (r8 ≤ k_ →
                K (-1) σ7) ∧ (k_ < r8 →
                q_W_path (fun σ10 =>
                  (0 ≤ k_ ∧ k_ < 649) ∧ (K (σ10 25 k_) σ10)) σ7)) σ4)) σ3) X σ2) X σ1) X σ
abbrev rm_R_along : Room := { frames := 8, cells := 4, slots := 24, locals := 143 }
set_option maxRecDepth 20000 in
set_option maxHeartbeats 4000000 in
theorem s_R_along {Ω : zO} {ad : Nat → Nat} {from_ : Int} {to_ : Int} {kind : Int} {k_ : Int} {K : Int → zS → Prop} {X : String → zS → Prop} {σ : zS} (hfrom_ : zR from_) (hto_ : zR to_) (hkind : zR kind) (hk_ : zR k_) (h : q_R_along from_ to_ kind k_ K X σ) : zXi Ω y_R_along (.code y_R_along c_R_along 5 (some .int)) rm_R_along zLy ad [.ref (ad 0), .int (zI from_), .int (zI to_), .int (zI kind), .int (zI k_)] σ K X := by
  refine z_ofXi (lv := [(0, .ref (ad 0)), (1, .int (zI from_)), (2, .int (zI to_)), (3, .int (zI kind)), (4, .int (zI k_))]) (by decide) rfl (Nat.le_of_ble_eq_true rfl) ?_
  intro Γ Q cx rt th out
  unfold q_R_along at h
  refine v_aload_n cx 0 d_R_along_0 rfl rfl ?_
  refine v_iload_n cx 1 d_R_along_1 rfl rfl ?_
  refine v_iload_n cx 2 d_R_along_2 rfl rfl ?_
  refine v_xcallv (st := []) cx (s_R_needPair hfrom_ hto_ h) yk_R_needPair lk_R_183 zl_0 rfl rfl rfl (Nat.le_of_ble_eq_true rfl) ⟨Nat.le_of_ble_eq_true rfl, Nat.le_of_ble_eq_true rfl⟩ ⟨(Nat.le_of_ble_eq_true rfl), (Nat.le_of_ble_eq_true rfl)⟩ d_R_along_3 (fun σ1 h => ?_) (fun E σ1 hX => out _ _ _ _ _ _ (Nat.le_of_ble_eq_true rfl) (Nat.le_of_ble_eq_true rfl) hX)
  refine v_widen (k' := 2) (n' := 12) (Nat.le_of_ble_eq_true rfl) (Nat.le_of_ble_eq_true rfl) ?_
  refine v_aload_n cx 0 d_R_along_6 rfl rfl ?_
  refine v_iload_n cx 3 d_R_along_7 rfl rfl ?_
  refine v_bipush cx (by decide) d_R_along_8 ?_
  refine v_xcallv (st := []) cx (s_R_needAnswer hkind ⟨by decide, by decide⟩ h) yk_R_needAnswer lk_R_137 zl_0 rfl rfl rfl (Nat.le_of_ble_eq_true rfl) ⟨Nat.le_of_ble_eq_true rfl, Nat.le_of_ble_eq_true rfl⟩ ⟨(Nat.le_of_ble_eq_true rfl), (Nat.le_of_ble_eq_true rfl)⟩ d_R_along_10 (fun σ2 h => ?_) (fun E σ1 hX => out _ _ _ _ _ _ (Nat.le_of_ble_eq_true rfl) (Nat.le_of_ble_eq_true rfl) hX)
  refine v_widen (k' := 3) (n' := 18) (Nat.le_of_ble_eq_true rfl) (Nat.le_of_ble_eq_true rfl) ?_
  refine v_aload_n cx 0 d_R_along_13 rfl rfl ?_
  refine v_iload_n cx 1 d_R_along_14 rfl rfl ?_
  refine v_iload_n cx 2 d_R_along_15 rfl rfl ?_
  refine v_xcallv (st := []) cx (s_R_needUnlike hfrom_ hto_ h) yk_R_needUnlike lk_R_186 zl_0 rfl rfl rfl (Nat.le_of_ble_eq_true rfl) ⟨Nat.le_of_ble_eq_true rfl, Nat.le_of_ble_eq_true rfl⟩ ⟨(Nat.le_of_ble_eq_true rfl), (Nat.le_of_ble_eq_true rfl)⟩ d_R_along_16 (fun σ3 h => ?_) (fun E σ1 hX => out _ _ _ _ _ _ (Nat.le_of_ble_eq_true rfl) (Nat.le_of_ble_eq_true rfl) hX)
  refine v_widen (k' := 4) (n' := 24) (Nat.le_of_ble_eq_true rfl) (Nat.le_of_ble_eq_true rfl) ?_
  refine v_aload_n cx 0 d_R_along_19 rfl rfl ?_
  refine gf_R_53 cx d_R_along_20 ?_
  refine v_iload_n cx 1 d_R_along_23 rfl rfl ?_
  refine v_iload_n cx 2 d_R_along_24 rfl rfl ?_
  refine v_iload_n cx 3 d_R_along_25 rfl rfl ?_
  refine v_callVi0 (st := []) cx (s_W_find hfrom_ hto_ hkind h) yk_W_find lk_R_189 zl_15 rfl rfl rfl (Nat.le_of_ble_eq_true rfl) ⟨Nat.le_of_ble_eq_true rfl, Nat.le_of_ble_eq_true rfl⟩ ⟨rfl, rfl⟩ ⟨(Nat.le_of_ble_eq_true rfl), (Nat.le_of_ble_eq_true rfl)⟩ d_R_along_26 (fun r5 σ4 hr5 h => ?_)
  refine v_pop cx d_R_along_29 rfl ?_
  refine v_iload cx 4 d_R_along_30 rfl ?_
  refine v_if_lt cx 60 d_R_along_32 (by decide) hk_ (fun c6 => ?_) (fun c6 => ?_)
  · replace h := h.1 c6
    refine v_iconst cx d_R_along_60 ?_
    exact rt _ _ _ _ _ _ (Nat.le_of_ble_eq_true rfl) (Nat.le_of_ble_eq_true rfl) d_R_along_61 ⟨by decide, by decide⟩ h
  · replace h := h.2 c6
    refine v_iload cx 4 d_R_along_35 rfl ?_
    refine v_aload_n cx 0 d_R_along_37 rfl rfl ?_
    refine gf_R_53 cx d_R_along_38 ?_
    refine v_callVi0 (st := [.int (zI k_)]) cx (s_W_pathSize  h) yk_W_pathSize lk_R_193 zl_15 rfl rfl rfl (Nat.le_of_ble_eq_true rfl) ⟨Nat.le_of_ble_eq_true rfl, Nat.le_of_ble_eq_true rfl⟩ ⟨rfl, rfl⟩ ⟨(Nat.le_of_ble_eq_true rfl), (Nat.le_of_ble_eq_true rfl)⟩ d_R_along_41 (fun r8 σ7 hr8 h => ?_)
    refine v_icmp_ge cx 60 d_R_along_44 (by decide) hk_ hr8 (fun c9 => ?_) (fun c9 => ?_)
    · replace h := h.1 c9
      refine v_iconst cx d_R_along_60 ?_
      exact rt _ _ _ _ _ _ (Nat.le_of_ble_eq_true rfl) (Nat.le_of_ble_eq_true rfl) d_R_along_61 ⟨by decide, by decide⟩ h
    · replace h := h.2 c9
      refine v_aload_n cx 0 d_R_along_47 rfl rfl ?_
      refine gf_R_53 cx d_R_along_48 ?_
      refine v_callVr0 (st := []) cx (s_W_path  h) yk_W_path lk_R_201 zl_15 rfl rfl rfl (Nat.le_of_ble_eq_true rfl) ⟨Nat.le_of_ble_eq_true rfl, Nat.le_of_ble_eq_true rfl⟩ ⟨rfl, rfl⟩ ⟨(Nat.le_of_ble_eq_true rfl), (Nat.le_of_ble_eq_true rfl)⟩ d_R_along_51 (fun ra σ10 h => ?_)
      obtain ⟨rfl, h⟩ := h
      refine v_iload cx 4 d_R_along_54 rfl ?_
      obtain ⟨hb11, h⟩ := h
      refine v_iald cx zl_25 (by decide) hb11.1 hb11.2 d_R_along_56 (fun hl12 => ?_)
      refine v_goto cx 61 d_R_along_57 (by decide) ?_
      exact rt _ _ _ _ _ _ (Nat.le_of_ble_eq_true rfl) (Nat.le_of_ble_eq_true rfl) d_R_along_61 hl12 h
def q_R_reach (place : Int) (K : Int → zS → Prop) (X : String → zS → Prop) (σ : zS) : Prop :=
  q_R_needPlace place (fun σ1 =>
    q_N_reached place (fun r3 σ2 =>
      K r3 σ2) σ1) X σ
abbrev rm_R_reach : Room := { frames := 7, cells := 1, slots := 6, locals := 124 }
set_option maxRecDepth 20000 in
set_option maxHeartbeats 4000000 in
theorem s_R_reach {Ω : zO} {ad : Nat → Nat} {place : Int} {K : Int → zS → Prop} {X : String → zS → Prop} {σ : zS} (hplace : zR place) (h : q_R_reach place K X σ) : zXi Ω y_R_reach (.code y_R_reach c_R_reach 2 (some .int)) rm_R_reach zLy ad [.ref (ad 0), .int (zI place)] σ K X := by
  refine z_ofXi (lv := [(0, .ref (ad 0)), (1, .int (zI place))]) (by decide) rfl (Nat.le_of_ble_eq_true rfl) ?_
  intro Γ Q cx rt th out
  unfold q_R_reach at h
  refine v_aload_n cx 0 d_R_reach_0 rfl rfl ?_
  refine v_iload_n cx 1 d_R_reach_1 rfl rfl ?_
  refine v_xcallv (st := []) cx (s_R_needPlace hplace h) yk_R_needPlace lk_R_134 zl_0 rfl rfl rfl (Nat.le_of_ble_eq_true rfl) ⟨Nat.le_of_ble_eq_true rfl, Nat.le_of_ble_eq_true rfl⟩ ⟨(Nat.le_of_ble_eq_true rfl), (Nat.le_of_ble_eq_true rfl)⟩ d_R_reach_2 (fun σ1 h => ?_) (fun E σ1 hX => out _ _ _ _ _ _ (Nat.le_of_ble_eq_true rfl) (Nat.le_of_ble_eq_true rfl) hX)
  refine v_widen (k' := 1) (n' := 6) (Nat.le_of_ble_eq_true rfl) (Nat.le_of_ble_eq_true rfl) ?_
  refine v_aload_n cx 0 d_R_reach_5 rfl rfl ?_
  refine gf_R_62 cx d_R_reach_6 ?_
  refine v_iload_n cx 1 d_R_reach_9 rfl rfl ?_
  refine v_callVi0 (st := []) cx (s_N_reached hplace h) yk_N_reached lk_R_235 zl_28 rfl rfl rfl (Nat.le_of_ble_eq_true rfl) ⟨Nat.le_of_ble_eq_true rfl, Nat.le_of_ble_eq_true rfl⟩ ⟨rfl, rfl⟩ ⟨(Nat.le_of_ble_eq_true rfl), (Nat.le_of_ble_eq_true rfl)⟩ d_R_reach_10 (fun r3 σ2 hr3 h => ?_)
  exact rt _ _ _ _ _ _ (Nat.le_of_ble_eq_true rfl) (Nat.le_of_ble_eq_true rfl) d_R_reach_13 hr3 h
def q_R_grade (from_ : Int) (to_ : Int) (K : Int → zS → Prop) (X : String → zS → Prop) (σ : zS) : Prop :=
  q_R_needPair from_ to_ (fun σ1 =>
    q_R_needUnlike from_ to_ (fun σ2 =>
      q_N_leastGrade from_ to_ (fun r4 σ3 =>
        K r4 σ3) σ2) X σ1) X σ
abbrev rm_R_grade : Room := { frames := 8, cells := 3, slots := 18, locals := 149 }
set_option maxRecDepth 20000 in
set_option maxHeartbeats 4000000 in
theorem s_R_grade {Ω : zO} {ad : Nat → Nat} {from_ : Int} {to_ : Int} {K : Int → zS → Prop} {X : String → zS → Prop} {σ : zS} (hfrom_ : zR from_) (hto_ : zR to_) (h : q_R_grade from_ to_ K X σ) : zXi Ω y_R_grade (.code y_R_grade c_R_grade 3 (some .int)) rm_R_grade zLy ad [.ref (ad 0), .int (zI from_), .int (zI to_)] σ K X := by
  refine z_ofXi (lv := [(0, .ref (ad 0)), (1, .int (zI from_)), (2, .int (zI to_))]) (by decide) rfl (Nat.le_of_ble_eq_true rfl) ?_
  intro Γ Q cx rt th out
  unfold q_R_grade at h
  refine v_aload_n cx 0 d_R_grade_0 rfl rfl ?_
  refine v_iload_n cx 1 d_R_grade_1 rfl rfl ?_
  refine v_iload_n cx 2 d_R_grade_2 rfl rfl ?_
  refine v_xcallv (st := []) cx (s_R_needPair hfrom_ hto_ h) yk_R_needPair lk_R_183 zl_0 rfl rfl rfl (Nat.le_of_ble_eq_true rfl) ⟨Nat.le_of_ble_eq_true rfl, Nat.le_of_ble_eq_true rfl⟩ ⟨(Nat.le_of_ble_eq_true rfl), (Nat.le_of_ble_eq_true rfl)⟩ d_R_grade_3 (fun σ1 h => ?_) (fun E σ1 hX => out _ _ _ _ _ _ (Nat.le_of_ble_eq_true rfl) (Nat.le_of_ble_eq_true rfl) hX)
  refine v_widen (k' := 2) (n' := 12) (Nat.le_of_ble_eq_true rfl) (Nat.le_of_ble_eq_true rfl) ?_
  refine v_aload_n cx 0 d_R_grade_6 rfl rfl ?_
  refine v_iload_n cx 1 d_R_grade_7 rfl rfl ?_
  refine v_iload_n cx 2 d_R_grade_8 rfl rfl ?_
  refine v_xcallv (st := []) cx (s_R_needUnlike hfrom_ hto_ h) yk_R_needUnlike lk_R_186 zl_0 rfl rfl rfl (Nat.le_of_ble_eq_true rfl) ⟨Nat.le_of_ble_eq_true rfl, Nat.le_of_ble_eq_true rfl⟩ ⟨(Nat.le_of_ble_eq_true rfl), (Nat.le_of_ble_eq_true rfl)⟩ d_R_grade_9 (fun σ2 h => ?_) (fun E σ1 hX => out _ _ _ _ _ _ (Nat.le_of_ble_eq_true rfl) (Nat.le_of_ble_eq_true rfl) hX)
  refine v_widen (k' := 3) (n' := 18) (Nat.le_of_ble_eq_true rfl) (Nat.le_of_ble_eq_true rfl) ?_
  refine v_aload_n cx 0 d_R_grade_12 rfl rfl ?_
  refine gf_R_62 cx d_R_grade_13 ?_
  refine v_iload_n cx 1 d_R_grade_16 rfl rfl ?_
  refine v_iload_n cx 2 d_R_grade_17 rfl rfl ?_
  refine v_callVi0 (st := []) cx (s_N_leastGrade hfrom_ hto_ h) yk_N_leastGrade lk_R_238 zl_28 rfl rfl rfl (Nat.le_of_ble_eq_true rfl) ⟨Nat.le_of_ble_eq_true rfl, Nat.le_of_ble_eq_true rfl⟩ ⟨rfl, rfl⟩ ⟨(Nat.le_of_ble_eq_true rfl), (Nat.le_of_ble_eq_true rfl)⟩ d_R_grade_18 (fun r4 σ3 hr4 h => ?_)
  exact rt _ _ _ _ _ _ (Nat.le_of_ble_eq_true rfl) (Nat.le_of_ble_eq_true rfl) d_R_grade_21 hr4 h
def q_R_gate (from_ : Int) (to_ : Int) (K : Int → zS → Prop) (X : String → zS → Prop) (σ : zS) : Prop :=
  q_R_needPair from_ to_ (fun σ1 =>
    q_R_needUnlike from_ to_ (fun σ2 =>
      q_N_firstGate from_ to_ (fun r4 σ3 =>
        K r4 σ3) σ2) X σ1) X σ
abbrev rm_R_gate : Room := { frames := 8, cells := 3, slots := 18, locals := 171 }
set_option maxRecDepth 20000 in
set_option maxHeartbeats 4000000 in
theorem s_R_gate {Ω : zO} {ad : Nat → Nat} {from_ : Int} {to_ : Int} {K : Int → zS → Prop} {X : String → zS → Prop} {σ : zS} (hfrom_ : zR from_) (hto_ : zR to_) (h : q_R_gate from_ to_ K X σ) : zXi Ω y_R_gate (.code y_R_gate c_R_gate 3 (some .int)) rm_R_gate zLy ad [.ref (ad 0), .int (zI from_), .int (zI to_)] σ K X := by
  refine z_ofXi (lv := [(0, .ref (ad 0)), (1, .int (zI from_)), (2, .int (zI to_))]) (by decide) rfl (Nat.le_of_ble_eq_true rfl) ?_
  intro Γ Q cx rt th out
  unfold q_R_gate at h
  refine v_aload_n cx 0 d_R_gate_0 rfl rfl ?_
  refine v_iload_n cx 1 d_R_gate_1 rfl rfl ?_
  refine v_iload_n cx 2 d_R_gate_2 rfl rfl ?_
  refine v_xcallv (st := []) cx (s_R_needPair hfrom_ hto_ h) yk_R_needPair lk_R_183 zl_0 rfl rfl rfl (Nat.le_of_ble_eq_true rfl) ⟨Nat.le_of_ble_eq_true rfl, Nat.le_of_ble_eq_true rfl⟩ ⟨(Nat.le_of_ble_eq_true rfl), (Nat.le_of_ble_eq_true rfl)⟩ d_R_gate_3 (fun σ1 h => ?_) (fun E σ1 hX => out _ _ _ _ _ _ (Nat.le_of_ble_eq_true rfl) (Nat.le_of_ble_eq_true rfl) hX)
  refine v_widen (k' := 2) (n' := 12) (Nat.le_of_ble_eq_true rfl) (Nat.le_of_ble_eq_true rfl) ?_
  refine v_aload_n cx 0 d_R_gate_6 rfl rfl ?_
  refine v_iload_n cx 1 d_R_gate_7 rfl rfl ?_
  refine v_iload_n cx 2 d_R_gate_8 rfl rfl ?_
  refine v_xcallv (st := []) cx (s_R_needUnlike hfrom_ hto_ h) yk_R_needUnlike lk_R_186 zl_0 rfl rfl rfl (Nat.le_of_ble_eq_true rfl) ⟨Nat.le_of_ble_eq_true rfl, Nat.le_of_ble_eq_true rfl⟩ ⟨(Nat.le_of_ble_eq_true rfl), (Nat.le_of_ble_eq_true rfl)⟩ d_R_gate_9 (fun σ2 h => ?_) (fun E σ1 hX => out _ _ _ _ _ _ (Nat.le_of_ble_eq_true rfl) (Nat.le_of_ble_eq_true rfl) hX)
  refine v_widen (k' := 3) (n' := 18) (Nat.le_of_ble_eq_true rfl) (Nat.le_of_ble_eq_true rfl) ?_
  refine v_aload_n cx 0 d_R_gate_12 rfl rfl ?_
  refine gf_R_62 cx d_R_gate_13 ?_
  refine v_iload_n cx 1 d_R_gate_16 rfl rfl ?_
  refine v_iload_n cx 2 d_R_gate_17 rfl rfl ?_
  refine v_callVi0 (st := []) cx (s_N_firstGate hfrom_ hto_ h) yk_N_firstGate lk_R_241 zl_28 rfl rfl rfl (Nat.le_of_ble_eq_true rfl) ⟨Nat.le_of_ble_eq_true rfl, Nat.le_of_ble_eq_true rfl⟩ ⟨rfl, rfl⟩ ⟨(Nat.le_of_ble_eq_true rfl), (Nat.le_of_ble_eq_true rfl)⟩ d_R_gate_18 (fun r4 σ3 hr4 h => ?_)
  exact rt _ _ _ _ _ _ (Nat.le_of_ble_eq_true rfl) (Nat.le_of_ble_eq_true rfl) d_R_gate_21 hr4 h
def q_R_bored (from_ : Int) (to_ : Int) (n_ : Int) (K : Int → zS → Prop) (X : String → zS → Prop) (σ : zS) : Prop :=
  q_R_needPair from_ to_ (fun σ1 =>
    q_R_needUnlike from_ to_ (fun σ2 =>
      q_R_needNumber n_ 0 3 (fun σ3 =>
        q_W_measureBored from_ to_ n_ (fun r5 σ4 =>
          K r5 σ4) σ3) X σ2) X σ1) X σ
abbrev rm_R_bored : Room := { frames := 8, cells := 4, slots := 24, locals := 143 }
set_option maxRecDepth 20000 in
set_option maxHeartbeats 4000000 in
theorem s_R_bored {Ω : zO} {ad : Nat → Nat} {from_ : Int} {to_ : Int} {n_ : Int} {K : Int → zS → Prop} {X : String → zS → Prop} {σ : zS} (hfrom_ : zR from_) (hto_ : zR to_) (hn_ : zR n_) (h : q_R_bored from_ to_ n_ K X σ) : zXi Ω y_R_bored (.code y_R_bored c_R_bored 4 (some .int)) rm_R_bored zLy ad [.ref (ad 0), .int (zI from_), .int (zI to_), .int (zI n_)] σ K X := by
  refine z_ofXi (lv := [(0, .ref (ad 0)), (1, .int (zI from_)), (2, .int (zI to_)), (3, .int (zI n_))]) (by decide) rfl (Nat.le_of_ble_eq_true rfl) ?_
  intro Γ Q cx rt th out
  unfold q_R_bored at h
  refine v_aload_n cx 0 d_R_bored_0 rfl rfl ?_
  refine v_iload_n cx 1 d_R_bored_1 rfl rfl ?_
  refine v_iload_n cx 2 d_R_bored_2 rfl rfl ?_
  refine v_xcallv (st := []) cx (s_R_needPair hfrom_ hto_ h) yk_R_needPair lk_R_183 zl_0 rfl rfl rfl (Nat.le_of_ble_eq_true rfl) ⟨Nat.le_of_ble_eq_true rfl, Nat.le_of_ble_eq_true rfl⟩ ⟨(Nat.le_of_ble_eq_true rfl), (Nat.le_of_ble_eq_true rfl)⟩ d_R_bored_3 (fun σ1 h => ?_) (fun E σ1 hX => out _ _ _ _ _ _ (Nat.le_of_ble_eq_true rfl) (Nat.le_of_ble_eq_true rfl) hX)
  refine v_widen (k' := 2) (n' := 12) (Nat.le_of_ble_eq_true rfl) (Nat.le_of_ble_eq_true rfl) ?_
  refine v_aload_n cx 0 d_R_bored_6 rfl rfl ?_
  refine v_iload_n cx 1 d_R_bored_7 rfl rfl ?_
  refine v_iload_n cx 2 d_R_bored_8 rfl rfl ?_
  refine v_xcallv (st := []) cx (s_R_needUnlike hfrom_ hto_ h) yk_R_needUnlike lk_R_186 zl_0 rfl rfl rfl (Nat.le_of_ble_eq_true rfl) ⟨Nat.le_of_ble_eq_true rfl, Nat.le_of_ble_eq_true rfl⟩ ⟨(Nat.le_of_ble_eq_true rfl), (Nat.le_of_ble_eq_true rfl)⟩ d_R_bored_9 (fun σ2 h => ?_) (fun E σ1 hX => out _ _ _ _ _ _ (Nat.le_of_ble_eq_true rfl) (Nat.le_of_ble_eq_true rfl) hX)
  refine v_widen (k' := 3) (n' := 18) (Nat.le_of_ble_eq_true rfl) (Nat.le_of_ble_eq_true rfl) ?_
  refine v_aload_n cx 0 d_R_bored_12 rfl rfl ?_
  refine v_iload_n cx 3 d_R_bored_13 rfl rfl ?_
  refine v_iconst cx d_R_bored_14 ?_
  refine v_iconst cx d_R_bored_15 ?_
  refine v_xcallv (st := []) cx (s_R_needNumber hn_ ⟨by decide, by decide⟩ ⟨by decide, by decide⟩ h) yk_R_needNumber lk_R_163 zl_0 rfl rfl rfl (Nat.le_of_ble_eq_true rfl) ⟨Nat.le_of_ble_eq_true rfl, Nat.le_of_ble_eq_true rfl⟩ ⟨(Nat.le_of_ble_eq_true rfl), (Nat.le_of_ble_eq_true rfl)⟩ d_R_bored_16 (fun σ3 h => ?_) (fun E σ1 hX => out _ _ _ _ _ _ (Nat.le_of_ble_eq_true rfl) (Nat.le_of_ble_eq_true rfl) hX)
  refine v_widen (k' := 4) (n' := 24) (Nat.le_of_ble_eq_true rfl) (Nat.le_of_ble_eq_true rfl) ?_
  refine v_aload_n cx 0 d_R_bored_19 rfl rfl ?_
  refine gf_R_53 cx d_R_bored_20 ?_
  refine v_iload_n cx 1 d_R_bored_23 rfl rfl ?_
  refine v_iload_n cx 2 d_R_bored_24 rfl rfl ?_
  refine v_iload_n cx 3 d_R_bored_25 rfl rfl ?_
  refine v_callVi0 (st := []) cx (s_W_measureBored hfrom_ hto_ hn_ h) yk_W_measureBored lk_R_244 zl_15 rfl rfl rfl (Nat.le_of_ble_eq_true rfl) ⟨Nat.le_of_ble_eq_true rfl, Nat.le_of_ble_eq_true rfl⟩ ⟨rfl, rfl⟩ ⟨(Nat.le_of_ble_eq_true rfl), (Nat.le_of_ble_eq_true rfl)⟩ d_R_bored_26 (fun r5 σ4 hr5 h => ?_)
  exact rt _ _ _ _ _ _ (Nat.le_of_ble_eq_true rfl) (Nat.le_of_ble_eq_true rfl) d_R_bored_29 hr5 h
def q_R_meet (a : Int) (b : Int) (c : Int) (what : Int) (K : Int → zS → Prop) (X : String → zS → Prop) (σ : zS) : Prop :=
  q_R_needPair a b (fun σ1 =>
    q_R_needPlace c (fun σ2 =>
      q_R_needAnswer what 2 (fun σ3 =>
        q_R_needUnlike a b (fun σ4 =>
          q_R_needUnlike b c (fun σ5 =>
            q_R_needUnlike a c (fun σ6 =>
              q_N_clearSums (fun σ7 =>
                q_N_addCosts a (fun σ8 =>
                  q_N_addCosts b (fun σ9 =>
                    q_N_addCosts c (fun σ10 =>
                      q_N_leastSumPlace (fun r12 σ11 =>
                        (r12 = (-1) →
                          K r12 σ11) ∧ (r12 ≠ (-1) →
                          (what ≠ 0 →
                            q_N_sumAt r12 (fun r16 σ15 =>
                              K r16 σ15) σ11) ∧ (what = 0 →
                            K r12 σ11))) σ10) σ9) σ8) σ7) σ6) X σ5) X σ4) X σ3) X σ2) X σ1) X σ
abbrev rm_R_meet : Room := { frames := 8, cells := 7, slots := 42, locals := 145 }
set_option maxRecDepth 20000 in
set_option maxHeartbeats 4000000 in
theorem s_R_meet {Ω : zO} {ad : Nat → Nat} {a : Int} {b : Int} {c : Int} {what : Int} {K : Int → zS → Prop} {X : String → zS → Prop} {σ : zS} (ha : zR a) (hb : zR b) (hc : zR c) (hwhat : zR what) (h : q_R_meet a b c what K X σ) : zXi Ω y_R_meet (.code y_R_meet c_R_meet 6 (some .int)) rm_R_meet zLy ad [.ref (ad 0), .int (zI a), .int (zI b), .int (zI c), .int (zI what)] σ K X := by
  refine z_ofXi (lv := [(0, .ref (ad 0)), (1, .int (zI a)), (2, .int (zI b)), (3, .int (zI c)), (4, .int (zI what))]) (by decide) rfl (Nat.le_of_ble_eq_true rfl) ?_
  intro Γ Q cx rt th out
  unfold q_R_meet at h
  refine v_aload_n cx 0 d_R_meet_0 rfl rfl ?_
  refine v_iload_n cx 1 d_R_meet_1 rfl rfl ?_
  refine v_iload_n cx 2 d_R_meet_2 rfl rfl ?_
  refine v_xcallv (st := []) cx (s_R_needPair ha hb h) yk_R_needPair lk_R_183 zl_0 rfl rfl rfl (Nat.le_of_ble_eq_true rfl) ⟨Nat.le_of_ble_eq_true rfl, Nat.le_of_ble_eq_true rfl⟩ ⟨(Nat.le_of_ble_eq_true rfl), (Nat.le_of_ble_eq_true rfl)⟩ d_R_meet_3 (fun σ1 h => ?_) (fun E σ1 hX => out _ _ _ _ _ _ (Nat.le_of_ble_eq_true rfl) (Nat.le_of_ble_eq_true rfl) hX)
  refine v_widen (k' := 2) (n' := 12) (Nat.le_of_ble_eq_true rfl) (Nat.le_of_ble_eq_true rfl) ?_
  refine v_aload_n cx 0 d_R_meet_6 rfl rfl ?_
  refine v_iload_n cx 3 d_R_meet_7 rfl rfl ?_
  refine v_xcallv (st := []) cx (s_R_needPlace hc h) yk_R_needPlace lk_R_134 zl_0 rfl rfl rfl (Nat.le_of_ble_eq_true rfl) ⟨Nat.le_of_ble_eq_true rfl, Nat.le_of_ble_eq_true rfl⟩ ⟨(Nat.le_of_ble_eq_true rfl), (Nat.le_of_ble_eq_true rfl)⟩ d_R_meet_8 (fun σ2 h => ?_) (fun E σ1 hX => out _ _ _ _ _ _ (Nat.le_of_ble_eq_true rfl) (Nat.le_of_ble_eq_true rfl) hX)
  refine v_widen (k' := 3) (n' := 18) (Nat.le_of_ble_eq_true rfl) (Nat.le_of_ble_eq_true rfl) ?_
  refine v_aload_n cx 0 d_R_meet_11 rfl rfl ?_
  refine v_iload cx 4 d_R_meet_12 rfl ?_
  refine v_iconst cx d_R_meet_14 ?_
  refine v_xcallv (st := []) cx (s_R_needAnswer hwhat ⟨by decide, by decide⟩ h) yk_R_needAnswer lk_R_137 zl_0 rfl rfl rfl (Nat.le_of_ble_eq_true rfl) ⟨Nat.le_of_ble_eq_true rfl, Nat.le_of_ble_eq_true rfl⟩ ⟨(Nat.le_of_ble_eq_true rfl), (Nat.le_of_ble_eq_true rfl)⟩ d_R_meet_15 (fun σ3 h => ?_) (fun E σ1 hX => out _ _ _ _ _ _ (Nat.le_of_ble_eq_true rfl) (Nat.le_of_ble_eq_true rfl) hX)
  refine v_widen (k' := 4) (n' := 24) (Nat.le_of_ble_eq_true rfl) (Nat.le_of_ble_eq_true rfl) ?_
  refine v_aload_n cx 0 d_R_meet_18 rfl rfl ?_
  refine v_iload_n cx 1 d_R_meet_19 rfl rfl ?_
  refine v_iload_n cx 2 d_R_meet_20 rfl rfl ?_
  refine v_xcallv (st := []) cx (s_R_needUnlike ha hb h) yk_R_needUnlike lk_R_186 zl_0 rfl rfl rfl (Nat.le_of_ble_eq_true rfl) ⟨Nat.le_of_ble_eq_true rfl, Nat.le_of_ble_eq_true rfl⟩ ⟨(Nat.le_of_ble_eq_true rfl), (Nat.le_of_ble_eq_true rfl)⟩ d_R_meet_21 (fun σ4 h => ?_) (fun E σ1 hX => out _ _ _ _ _ _ (Nat.le_of_ble_eq_true rfl) (Nat.le_of_ble_eq_true rfl) hX)
  refine v_widen (k' := 5) (n' := 30) (Nat.le_of_ble_eq_true rfl) (Nat.le_of_ble_eq_true rfl) ?_
  refine v_aload_n cx 0 d_R_meet_24 rfl rfl ?_
  refine v_iload_n cx 2 d_R_meet_25 rfl rfl ?_
  refine v_iload_n cx 3 d_R_meet_26 rfl rfl ?_
  refine v_xcallv (st := []) cx (s_R_needUnlike hb hc h) yk_R_needUnlike lk_R_186 zl_0 rfl rfl rfl (Nat.le_of_ble_eq_true rfl) ⟨Nat.le_of_ble_eq_true rfl, Nat.le_of_ble_eq_true rfl⟩ ⟨(Nat.le_of_ble_eq_true rfl), (Nat.le_of_ble_eq_true rfl)⟩ d_R_meet_27 (fun σ5 h => ?_) (fun E σ1 hX => out _ _ _ _ _ _ (Nat.le_of_ble_eq_true rfl) (Nat.le_of_ble_eq_true rfl) hX)
  refine v_widen (k' := 6) (n' := 36) (Nat.le_of_ble_eq_true rfl) (Nat.le_of_ble_eq_true rfl) ?_
  refine v_aload_n cx 0 d_R_meet_30 rfl rfl ?_
  refine v_iload_n cx 1 d_R_meet_31 rfl rfl ?_
  refine v_iload_n cx 3 d_R_meet_32 rfl rfl ?_
  refine v_xcallv (st := []) cx (s_R_needUnlike ha hc h) yk_R_needUnlike lk_R_186 zl_0 rfl rfl rfl (Nat.le_of_ble_eq_true rfl) ⟨Nat.le_of_ble_eq_true rfl, Nat.le_of_ble_eq_true rfl⟩ ⟨(Nat.le_of_ble_eq_true rfl), (Nat.le_of_ble_eq_true rfl)⟩ d_R_meet_33 (fun σ6 h => ?_) (fun E σ1 hX => out _ _ _ _ _ _ (Nat.le_of_ble_eq_true rfl) (Nat.le_of_ble_eq_true rfl) hX)
  refine v_widen (k' := 7) (n' := 42) (Nat.le_of_ble_eq_true rfl) (Nat.le_of_ble_eq_true rfl) ?_
  refine v_aload_n cx 0 d_R_meet_36 rfl rfl ?_
  refine gf_R_62 cx d_R_meet_37 ?_
  refine v_callVv0 (st := []) cx (s_N_clearSums  h) yk_N_clearSums lk_R_247 zl_28 rfl rfl rfl (Nat.le_of_ble_eq_true rfl) ⟨Nat.le_of_ble_eq_true rfl, Nat.le_of_ble_eq_true rfl⟩ ⟨rfl, rfl⟩ ⟨(Nat.le_of_ble_eq_true rfl), (Nat.le_of_ble_eq_true rfl)⟩ d_R_meet_40 (fun σ7 h => ?_)
  refine v_aload_n cx 0 d_R_meet_43 rfl rfl ?_
  refine gf_R_62 cx d_R_meet_44 ?_
  refine v_iload_n cx 1 d_R_meet_47 rfl rfl ?_
  refine v_callVv0 (st := []) cx (s_N_addCosts ha h) yk_N_addCosts lk_R_250 zl_28 rfl rfl rfl (Nat.le_of_ble_eq_true rfl) ⟨Nat.le_of_ble_eq_true rfl, Nat.le_of_ble_eq_true rfl⟩ ⟨rfl, rfl⟩ ⟨(Nat.le_of_ble_eq_true rfl), (Nat.le_of_ble_eq_true rfl)⟩ d_R_meet_48 (fun σ8 h => ?_)
  refine v_aload_n cx 0 d_R_meet_51 rfl rfl ?_
  refine gf_R_62 cx d_R_meet_52 ?_
  refine v_iload_n cx 2 d_R_meet_55 rfl rfl ?_
  refine v_callVv0 (st := []) cx (s_N_addCosts hb h) yk_N_addCosts lk_R_250 zl_28 rfl rfl rfl (Nat.le_of_ble_eq_true rfl) ⟨Nat.le_of_ble_eq_true rfl, Nat.le_of_ble_eq_true rfl⟩ ⟨rfl, rfl⟩ ⟨(Nat.le_of_ble_eq_true rfl), (Nat.le_of_ble_eq_true rfl)⟩ d_R_meet_56 (fun σ9 h => ?_)
  refine v_aload_n cx 0 d_R_meet_59 rfl rfl ?_
  refine gf_R_62 cx d_R_meet_60 ?_
  refine v_iload_n cx 3 d_R_meet_63 rfl rfl ?_
  refine v_callVv0 (st := []) cx (s_N_addCosts hc h) yk_N_addCosts lk_R_250 zl_28 rfl rfl rfl (Nat.le_of_ble_eq_true rfl) ⟨Nat.le_of_ble_eq_true rfl, Nat.le_of_ble_eq_true rfl⟩ ⟨rfl, rfl⟩ ⟨(Nat.le_of_ble_eq_true rfl), (Nat.le_of_ble_eq_true rfl)⟩ d_R_meet_64 (fun σ10 h => ?_)
  refine v_aload_n cx 0 d_R_meet_67 rfl rfl ?_
  refine gf_R_62 cx d_R_meet_68 ?_
  refine v_callVi0 (st := []) cx (s_N_leastSumPlace  h) yk_N_leastSumPlace lk_R_253 zl_28 rfl rfl rfl (Nat.le_of_ble_eq_true rfl) ⟨Nat.le_of_ble_eq_true rfl, Nat.le_of_ble_eq_true rfl⟩ ⟨rfl, rfl⟩ ⟨(Nat.le_of_ble_eq_true rfl), (Nat.le_of_ble_eq_true rfl)⟩ d_R_meet_71 (fun r12 σ11 hr12 h => ?_)
  refine v_istore (lv' := [(0, .ref (ad 0)), (1, .int (zI a)), (2, .int (zI b)), (3, .int (zI c)), (4, .int (zI what)), (5, .int (zI r12))]) cx d_R_meet_74 (by decide) rfl rfl ?_
  refine v_iload cx 5 d_R_meet_76 rfl ?_
  refine v_iconst cx d_R_meet_78 ?_
  refine v_icmp_eq cx 87 d_R_meet_79 (by decide) hr12 ⟨by decide, by decide⟩ (fun c13 => ?_) (fun c13 => ?_)
  · replace h := h.1 c13
    refine v_iload cx 5 d_R_meet_87 rfl ?_
    refine v_goto cx 101 d_R_meet_89 (by decide) ?_
    exact rt _ _ _ _ _ _ (Nat.le_of_ble_eq_true rfl) (Nat.le_of_ble_eq_true rfl) d_R_meet_101 hr12 h
  · replace h := h.2 c13
    refine v_iload cx 4 d_R_meet_82 rfl ?_
    refine v_if_ne cx 92 d_R_meet_84 (by decide) hwhat (fun c14 => ?_) (fun c14 => ?_)
    · replace h := h.1 c14
      refine v_aload_n cx 0 d_R_meet_92 rfl rfl ?_
      refine gf_R_62 cx d_R_meet_93 ?_
      refine v_iload cx 5 d_R_meet_96 rfl ?_
      refine v_callVi0 (st := []) cx (s_N_sumAt hr12 h) yk_N_sumAt lk_R_256 zl_28 rfl rfl rfl (Nat.le_of_ble_eq_true rfl) ⟨Nat.le_of_ble_eq_true rfl, Nat.le_of_ble_eq_true rfl⟩ ⟨rfl, rfl⟩ ⟨(Nat.le_of_ble_eq_true rfl), (Nat.le_of_ble_eq_true rfl)⟩ d_R_meet_98 (fun r16 σ15 hr16 h => ?_)
      exact rt _ _ _ _ _ _ (Nat.le_of_ble_eq_true rfl) (Nat.le_of_ble_eq_true rfl) d_R_meet_101 hr16 h
    · replace h := h.2 c14
      refine v_iload cx 5 d_R_meet_87 rfl ?_
      refine v_goto cx 101 d_R_meet_89 (by decide) ?_
      exact rt _ _ _ _ _ _ (Nat.le_of_ble_eq_true rfl) (Nat.le_of_ble_eq_true rfl) d_R_meet_101 hr12 h
def q_R_round (K : Int → zS → Prop) (X : String → zS → Prop) (σ : zS) : Prop :=
  q_T_size (fun r2 σ1 =>
    q_T_cut 0 (fun r4 σ3 =>
      q_N_takeRound r2 (fun r6 σ5 =>
        (r6 ≠ 0 →
          q_N_leastRound (fun r9 σ8 =>
            K r9 σ8) σ5) ∧ (r6 = 0 →
          X "java/lang/IllegalArgumentException" σ5)) σ3) σ1) σ
abbrev rm_R_round : Room := { frames := 7, cells := 1, slots := 6, locals := 168 }
set_option maxRecDepth 20000 in
set_option maxHeartbeats 4000000 in
theorem s_R_round {Ω : zO} {ad : Nat → Nat} {K : Int → zS → Prop} {X : String → zS → Prop} {σ : zS}  (h : q_R_round K X σ) : zXi Ω y_R_round (.code y_R_round c_R_round 2 (some .int)) rm_R_round zLy ad [.ref (ad 0)] σ K X := by
  refine z_ofXi (lv := [(0, .ref (ad 0))]) (by decide) rfl (Nat.le_of_ble_eq_true rfl) ?_
  intro Γ Q cx rt th out
  unfold q_R_round at h
  refine v_aload_n cx 0 d_R_round_0 rfl rfl ?_
  refine gf_R_12 cx d_R_round_1 ?_
  refine v_callVi0 (st := []) cx (s_T_size  h) yk_T_size lk_R_102 zl_1 rfl rfl rfl (Nat.le_of_ble_eq_true rfl) ⟨Nat.le_of_ble_eq_true rfl, Nat.le_of_ble_eq_true rfl⟩ ⟨rfl, rfl⟩ ⟨(Nat.le_of_ble_eq_true rfl), (Nat.le_of_ble_eq_true rfl)⟩ d_R_round_4 (fun r2 σ1 hr2 h => ?_)
  refine v_istore_n (lv' := [(0, .ref (ad 0)), (1, .int (zI r2))]) cx d_R_round_7 rfl (by decide) rfl rfl ?_
  refine v_aload_n cx 0 d_R_round_8 rfl rfl ?_
  refine gf_R_12 cx d_R_round_9 ?_
  refine v_iconst cx d_R_round_12 ?_
  refine v_callVz0 (st := []) cx (s_T_cut ⟨by decide, by decide⟩ h) yk_T_cut lk_R_106 zl_1 rfl rfl rfl (Nat.le_of_ble_eq_true rfl) ⟨Nat.le_of_ble_eq_true rfl, Nat.le_of_ble_eq_true rfl⟩ ⟨rfl, rfl⟩ ⟨(Nat.le_of_ble_eq_true rfl), (Nat.le_of_ble_eq_true rfl)⟩ d_R_round_13 (fun r4 σ3 hr4 h => ?_)
  refine v_pop cx d_R_round_16 rfl ?_
  refine v_aload_n cx 0 d_R_round_17 rfl rfl ?_
  refine gf_R_62 cx d_R_round_18 ?_
  refine v_aload_n cx 0 d_R_round_21 rfl rfl ?_
  refine gf_R_12 cx d_R_round_22 ?_
  refine v_iload_n cx 1 d_R_round_25 rfl rfl ?_
  refine v_callVz0 (st := []) cx (s_N_takeRound hr2 h) yk_N_takeRound lk_R_259 zl_28 rfl rfl rfl (Nat.le_of_ble_eq_true rfl) ⟨Nat.le_of_ble_eq_true rfl, Nat.le_of_ble_eq_true rfl⟩ ⟨rfl, rfl⟩ ⟨(Nat.le_of_ble_eq_true rfl), (Nat.le_of_ble_eq_true rfl)⟩ d_R_round_26 (fun r6 σ5 hr6 h => ?_)
  refine v_if_ne cx 43 d_R_round_29 (by decide) (zR_b hr6) (fun c7 => ?_) (fun c7 => ?_)
  · replace h := h.1 c7
    refine v_aload_n cx 0 d_R_round_43 rfl rfl ?_
    refine gf_R_62 cx d_R_round_44 ?_
    refine v_callVi0 (st := []) cx (s_N_leastRound  h) yk_N_leastRound lk_R_265 zl_28 rfl rfl rfl (Nat.le_of_ble_eq_true rfl) ⟨Nat.le_of_ble_eq_true rfl, Nat.le_of_ble_eq_true rfl⟩ ⟨rfl, rfl⟩ ⟨(Nat.le_of_ble_eq_true rfl), (Nat.le_of_ble_eq_true rfl)⟩ d_R_round_47 (fun r9 σ8 hr9 h => ?_)
    exact rt _ _ _ _ _ _ (Nat.le_of_ble_eq_true rfl) (Nat.le_of_ble_eq_true rfl) d_R_round_50 hr9 h
  · replace h := h.2 c7
    exact th _ _ _ _ _ _ 113 263 117 33 _ _ _ (Or.inl ztw_0) zsr_33 d_R_round_32 d_R_round_35 (Or.inr ⟨d_R_round_36, d_R_round_39, d_R_round_42⟩) (Nat.le_of_ble_eq_true rfl) (Nat.le_of_ble_eq_true rfl) (Nat.le_of_ble_eq_true rfl) (Nat.le_of_ble_eq_true rfl) h
def q_R_road (road : Int) (what : Int) (K : Int → zS → Prop) (X : String → zS → Prop) (σ : zS) : Prop :=
  q_R_needRoad road (fun σ1 =>
    q_R_needAnswer what 15 (fun σ2 =>
      q_R_needBuilt road (fun σ3 =>
        q_U_answer road what (fun r5 σ4 =>
          K r5 σ4) σ3) X σ2) X σ1) X σ
abbrev rm_R_road : Room := { frames := 7, cells := 3, slots := 18, locals := 169 }
set_option maxRecDepth 20000 in
set_option maxHeartbeats 4000000 in
theorem s_R_road {Ω : zO} {ad : Nat → Nat} {road : Int} {what : Int} {K : Int → zS → Prop} {X : String → zS → Prop} {σ : zS} (hroad : zR road) (hwhat : zR what) (h : q_R_road road what K X σ) : zXi Ω y_R_road (.code y_R_road c_R_road 3 (some .int)) rm_R_road zLy ad [.ref (ad 0), .int (zI road), .int (zI what)] σ K X := by
  refine z_ofXi (lv := [(0, .ref (ad 0)), (1, .int (zI road)), (2, .int (zI what))]) (by decide) rfl (Nat.le_of_ble_eq_true rfl) ?_
  intro Γ Q cx rt th out
  unfold q_R_road at h
  refine v_aload_n cx 0 d_R_road_0 rfl rfl ?_
  refine v_iload_n cx 1 d_R_road_1 rfl rfl ?_
  refine v_xcallv (st := []) cx (s_R_needRoad hroad h) yk_R_needRoad lk_R_180 zl_0 rfl rfl rfl (Nat.le_of_ble_eq_true rfl) ⟨Nat.le_of_ble_eq_true rfl, Nat.le_of_ble_eq_true rfl⟩ ⟨(Nat.le_of_ble_eq_true rfl), (Nat.le_of_ble_eq_true rfl)⟩ d_R_road_2 (fun σ1 h => ?_) (fun E σ1 hX => out _ _ _ _ _ _ (Nat.le_of_ble_eq_true rfl) (Nat.le_of_ble_eq_true rfl) hX)
  refine v_widen (k' := 1) (n' := 6) (Nat.le_of_ble_eq_true rfl) (Nat.le_of_ble_eq_true rfl) ?_
  refine v_aload_n cx 0 d_R_road_5 rfl rfl ?_
  refine v_iload_n cx 2 d_R_road_6 rfl rfl ?_
  refine v_bipush cx (by decide) d_R_road_7 ?_
  refine v_xcallv (st := []) cx (s_R_needAnswer hwhat ⟨by decide, by decide⟩ h) yk_R_needAnswer lk_R_137 zl_0 rfl rfl rfl (Nat.le_of_ble_eq_true rfl) ⟨Nat.le_of_ble_eq_true rfl, Nat.le_of_ble_eq_true rfl⟩ ⟨(Nat.le_of_ble_eq_true rfl), (Nat.le_of_ble_eq_true rfl)⟩ d_R_road_9 (fun σ2 h => ?_) (fun E σ1 hX => out _ _ _ _ _ _ (Nat.le_of_ble_eq_true rfl) (Nat.le_of_ble_eq_true rfl) hX)
  refine v_widen (k' := 2) (n' := 12) (Nat.le_of_ble_eq_true rfl) (Nat.le_of_ble_eq_true rfl) ?_
  refine v_aload_n cx 0 d_R_road_12 rfl rfl ?_
  refine v_iload_n cx 1 d_R_road_13 rfl rfl ?_
  refine v_xcallv (st := []) cx (s_R_needBuilt hroad h) yk_R_needBuilt lk_R_208 zl_0 rfl rfl rfl (Nat.le_of_ble_eq_true rfl) ⟨Nat.le_of_ble_eq_true rfl, Nat.le_of_ble_eq_true rfl⟩ ⟨(Nat.le_of_ble_eq_true rfl), (Nat.le_of_ble_eq_true rfl)⟩ d_R_road_14 (fun σ3 h => ?_) (fun E σ1 hX => out _ _ _ _ _ _ (Nat.le_of_ble_eq_true rfl) (Nat.le_of_ble_eq_true rfl) hX)
  refine v_widen (k' := 3) (n' := 18) (Nat.le_of_ble_eq_true rfl) (Nat.le_of_ble_eq_true rfl) ?_
  refine v_aload_n cx 0 d_R_road_17 rfl rfl ?_
  refine gf_R_78 cx d_R_road_18 ?_
  refine v_iload_n cx 1 d_R_road_21 rfl rfl ?_
  refine v_iload_n cx 2 d_R_road_22 rfl rfl ?_
  refine v_callVi0 (st := []) cx (s_U_answer hroad hwhat h) yk_U_answer lk_R_268 zl_38 rfl rfl rfl (Nat.le_of_ble_eq_true rfl) ⟨Nat.le_of_ble_eq_true rfl, Nat.le_of_ble_eq_true rfl⟩ ⟨rfl, rfl⟩ ⟨(Nat.le_of_ble_eq_true rfl), (Nat.le_of_ble_eq_true rfl)⟩ d_R_road_23 (fun r5 σ4 hr5 h => ?_)
  exact rt _ _ _ _ _ _ (Nat.le_of_ble_eq_true rfl) (Nat.le_of_ble_eq_true rfl) d_R_road_26 hr5 h
def q_R_at (road : Int) (k_ : Int) (offset : Int) (K : Int → zS → Prop) (X : String → zS → Prop) (σ : zS) : Prop :=
  q_R_needRoad road (fun σ1 =>
    q_R_needBuilt road (fun σ2 =>
      (k_ < 0 →
        (offset = 0 →
          K (-1) σ2) ∧ (offset ≠ 0 →
          K 100 σ2)) ∧ (0 ≤ k_ →
        q_L_roadSize road (fun r6 σ5 =>
          (k_ < r6 →
            (offset = 0 →
              q_L_roadPlace road k_ (fun r10 σ9 =>
                K r10 σ9) σ5) ∧ (offset ≠ 0 →
              q_L_roadOffset road k_ (fun r12 σ11 =>
                K r12 σ11) σ5)) ∧ (r6 ≤ k_ →
            (offset = 0 →
              K (-1) σ5) ∧ (offset ≠ 0 →
              K 100 σ5))) σ2)) X σ1) X σ
abbrev rm_R_at : Room := { frames := 7, cells := 2, slots := 12, locals := 121 }
set_option maxRecDepth 20000 in
set_option maxHeartbeats 4000000 in
theorem s_R_at {Ω : zO} {ad : Nat → Nat} {road : Int} {k_ : Int} {offset : Int} {K : Int → zS → Prop} {X : String → zS → Prop} {σ : zS} (hroad : zR road) (hk_ : zR k_) (hoffset : offset = 0 ∨ offset = 1) (h : q_R_at road k_ offset K X σ) : zXi Ω y_R_at (.code y_R_at c_R_at 4 (some .int)) rm_R_at zLy ad [.ref (ad 0), .int (zI road), .int (zI k_), .int (zI offset)] σ K X := by
  refine z_ofXi (lv := [(0, .ref (ad 0)), (1, .int (zI road)), (2, .int (zI k_)), (3, .int (zI offset))]) (by decide) rfl (Nat.le_of_ble_eq_true rfl) ?_
  intro Γ Q cx rt th out
  unfold q_R_at at h
  refine v_aload_n cx 0 d_R_at_0 rfl rfl ?_
  refine v_iload_n cx 1 d_R_at_1 rfl rfl ?_
  refine v_xcallv (st := []) cx (s_R_needRoad hroad h) yk_R_needRoad lk_R_180 zl_0 rfl rfl rfl (Nat.le_of_ble_eq_true rfl) ⟨Nat.le_of_ble_eq_true rfl, Nat.le_of_ble_eq_true rfl⟩ ⟨(Nat.le_of_ble_eq_true rfl), (Nat.le_of_ble_eq_true rfl)⟩ d_R_at_2 (fun σ1 h => ?_) (fun E σ1 hX => out _ _ _ _ _ _ (Nat.le_of_ble_eq_true rfl) (Nat.le_of_ble_eq_true rfl) hX)
  refine v_widen (k' := 1) (n' := 6) (Nat.le_of_ble_eq_true rfl) (Nat.le_of_ble_eq_true rfl) ?_
  refine v_aload_n cx 0 d_R_at_5 rfl rfl ?_
  refine v_iload_n cx 1 d_R_at_6 rfl rfl ?_
  refine v_xcallv (st := []) cx (s_R_needBuilt hroad h) yk_R_needBuilt lk_R_208 zl_0 rfl rfl rfl (Nat.le_of_ble_eq_true rfl) ⟨Nat.le_of_ble_eq_true rfl, Nat.le_of_ble_eq_true rfl⟩ ⟨(Nat.le_of_ble_eq_true rfl), (Nat.le_of_ble_eq_true rfl)⟩ d_R_at_7 (fun σ2 h => ?_) (fun E σ1 hX => out _ _ _ _ _ _ (Nat.le_of_ble_eq_true rfl) (Nat.le_of_ble_eq_true rfl) hX)
  refine v_widen (k' := 2) (n' := 12) (Nat.le_of_ble_eq_true rfl) (Nat.le_of_ble_eq_true rfl) ?_
  refine v_iload_n cx 2 d_R_at_10 rfl rfl ?_
  refine v_if_lt cx 26 d_R_at_11 (by decide) hk_ (fun c3 => ?_) (fun c3 => ?_)
  · replace h := h.1 c3
    refine v_iload_n cx 3 d_R_at_26 rfl rfl ?_
    refine v_if_eq cx 35 d_R_at_27 (by decide) (zR_b hoffset) (fun c4 => ?_) (fun c4 => ?_)
    · replace h := h.1 c4
      refine v_iconst cx d_R_at_35 ?_
      exact rt _ _ _ _ _ _ (Nat.le_of_ble_eq_true rfl) (Nat.le_of_ble_eq_true rfl) d_R_at_36 ⟨by decide, by decide⟩ h
    · replace h := h.2 c4
      refine v_bipush cx (by decide) d_R_at_30 ?_
      refine v_goto cx 36 d_R_at_32 (by decide) ?_
      exact rt _ _ _ _ _ _ (Nat.le_of_ble_eq_true rfl) (Nat.le_of_ble_eq_true rfl) d_R_at_36 ⟨by decide, by decide⟩ h
  · replace h := h.2 c3
    refine v_iload_n cx 2 d_R_at_14 rfl rfl ?_
    refine v_aload_n cx 0 d_R_at_15 rfl rfl ?_
    refine gf_R_19 cx d_R_at_16 ?_
    refine v_iload_n cx 1 d_R_at_19 rfl rfl ?_
    refine v_callVi0 (st := [.int (zI k_)]) cx (s_L_roadSize hroad h) yk_L_roadSize lk_R_211 zl_3 rfl rfl rfl (Nat.le_of_ble_eq_true rfl) ⟨Nat.le_of_ble_eq_true rfl, Nat.le_of_ble_eq_true rfl⟩ ⟨rfl, rfl⟩ ⟨(Nat.le_of_ble_eq_true rfl), (Nat.le_of_ble_eq_true rfl)⟩ d_R_at_20 (fun r6 σ5 hr6 h => ?_)
    refine v_icmp_lt cx 37 d_R_at_23 (by decide) hk_ hr6 (fun c7 => ?_) (fun c7 => ?_)
    · replace h := h.1 c7
      refine v_iload_n cx 3 d_R_at_37 rfl rfl ?_
      refine v_if_eq cx 53 d_R_at_38 (by decide) (zR_b hoffset) (fun c8 => ?_) (fun c8 => ?_)
      · replace h := h.1 c8
        refine v_aload_n cx 0 d_R_at_53 rfl rfl ?_
        refine gf_R_19 cx d_R_at_54 ?_
        refine v_iload_n cx 1 d_R_at_57 rfl rfl ?_
        refine v_iload_n cx 2 d_R_at_58 rfl rfl ?_
        refine v_callVi0 (st := []) cx (s_L_roadPlace hroad hk_ h) yk_L_roadPlace lk_R_274 zl_3 rfl rfl rfl (Nat.le_of_ble_eq_true rfl) ⟨Nat.le_of_ble_eq_true rfl, Nat.le_of_ble_eq_true rfl⟩ ⟨rfl, rfl⟩ ⟨(Nat.le_of_ble_eq_true rfl), (Nat.le_of_ble_eq_true rfl)⟩ d_R_at_59 (fun r10 σ9 hr10 h => ?_)
        exact rt _ _ _ _ _ _ (Nat.le_of_ble_eq_true rfl) (Nat.le_of_ble_eq_true rfl) d_R_at_62 hr10 h
      · replace h := h.2 c8
        refine v_aload_n cx 0 d_R_at_41 rfl rfl ?_
        refine gf_R_19 cx d_R_at_42 ?_
        refine v_iload_n cx 1 d_R_at_45 rfl rfl ?_
        refine v_iload_n cx 2 d_R_at_46 rfl rfl ?_
        refine v_callVi0 (st := []) cx (s_L_roadOffset hroad hk_ h) yk_L_roadOffset lk_R_271 zl_3 rfl rfl rfl (Nat.le_of_ble_eq_true rfl) ⟨Nat.le_of_ble_eq_true rfl, Nat.le_of_ble_eq_true rfl⟩ ⟨rfl, rfl⟩ ⟨(Nat.le_of_ble_eq_true rfl), (Nat.le_of_ble_eq_true rfl)⟩ d_R_at_47 (fun r12 σ11 hr12 h => ?_)
        refine v_goto cx 62 d_R_at_50 (by decide) ?_
        exact rt _ _ _ _ _ _ (Nat.le_of_ble_eq_true rfl) (Nat.le_of_ble_eq_true rfl) d_R_at_62 hr12 h
    · replace h := h.2 c7
      refine v_iload_n cx 3 d_R_at_26 rfl rfl ?_
      refine v_if_eq cx 35 d_R_at_27 (by decide) (zR_b hoffset) (fun c13 => ?_) (fun c13 => ?_)
      · replace h := h.1 c13
        refine v_iconst cx d_R_at_35 ?_
        exact rt _ _ _ _ _ _ (Nat.le_of_ble_eq_true rfl) (Nat.le_of_ble_eq_true rfl) d_R_at_36 ⟨by decide, by decide⟩ h
      · replace h := h.2 c13
        refine v_bipush cx (by decide) d_R_at_30 ?_
        refine v_goto cx 36 d_R_at_32 (by decide) ?_
        exact rt _ _ _ _ _ _ (Nat.le_of_ble_eq_true rfl) (Nat.le_of_ble_eq_true rfl) d_R_at_36 ⟨by decide, by decide⟩ h
def q_R_earth (road : Int) (rule : Int) (K : Int → zS → Prop) (X : String → zS → Prop) (σ : zS) : Prop :=
  q_R_needRoad road (fun σ1 =>
    q_R_needNumber rule 0 99 (fun σ2 =>
      q_R_needBuilt road (fun σ3 =>
        q_G_leastEarth road rule (fun r5 σ4 =>
          K r5 σ4) σ3) X σ2) X σ1) X σ
abbrev rm_R_earth : Room := { frames := 7, cells := 3, slots := 18, locals := 123 }
set_option maxRecDepth 20000 in
set_option maxHeartbeats 4000000 in
theorem s_R_earth {Ω : zO} {ad : Nat → Nat} {road : Int} {rule : Int} {K : Int → zS → Prop} {X : String → zS → Prop} {σ : zS} (hroad : zR road) (hrule : zR rule) (h : q_R_earth road rule K X σ) : zXi Ω y_R_earth (.code y_R_earth c_R_earth 3 (some .int)) rm_R_earth zLy ad [.ref (ad 0), .int (zI road), .int (zI rule)] σ K X := by
  refine z_ofXi (lv := [(0, .ref (ad 0)), (1, .int (zI road)), (2, .int (zI rule))]) (by decide) rfl (Nat.le_of_ble_eq_true rfl) ?_
  intro Γ Q cx rt th out
  unfold q_R_earth at h
  refine v_aload_n cx 0 d_R_earth_0 rfl rfl ?_
  refine v_iload_n cx 1 d_R_earth_1 rfl rfl ?_
  refine v_xcallv (st := []) cx (s_R_needRoad hroad h) yk_R_needRoad lk_R_180 zl_0 rfl rfl rfl (Nat.le_of_ble_eq_true rfl) ⟨Nat.le_of_ble_eq_true rfl, Nat.le_of_ble_eq_true rfl⟩ ⟨(Nat.le_of_ble_eq_true rfl), (Nat.le_of_ble_eq_true rfl)⟩ d_R_earth_2 (fun σ1 h => ?_) (fun E σ1 hX => out _ _ _ _ _ _ (Nat.le_of_ble_eq_true rfl) (Nat.le_of_ble_eq_true rfl) hX)
  refine v_widen (k' := 1) (n' := 6) (Nat.le_of_ble_eq_true rfl) (Nat.le_of_ble_eq_true rfl) ?_
  refine v_aload_n cx 0 d_R_earth_5 rfl rfl ?_
  refine v_iload_n cx 2 d_R_earth_6 rfl rfl ?_
  refine v_iconst cx d_R_earth_7 ?_
  refine v_bipush cx (by decide) d_R_earth_8 ?_
  refine v_xcallv (st := []) cx (s_R_needNumber hrule ⟨by decide, by decide⟩ ⟨by decide, by decide⟩ h) yk_R_needNumber lk_R_163 zl_0 rfl rfl rfl (Nat.le_of_ble_eq_true rfl) ⟨Nat.le_of_ble_eq_true rfl, Nat.le_of_ble_eq_true rfl⟩ ⟨(Nat.le_of_ble_eq_true rfl), (Nat.le_of_ble_eq_true rfl)⟩ d_R_earth_10 (fun σ2 h => ?_) (fun E σ1 hX => out _ _ _ _ _ _ (Nat.le_of_ble_eq_true rfl) (Nat.le_of_ble_eq_true rfl) hX)
  refine v_widen (k' := 2) (n' := 12) (Nat.le_of_ble_eq_true rfl) (Nat.le_of_ble_eq_true rfl) ?_
  refine v_aload_n cx 0 d_R_earth_13 rfl rfl ?_
  refine v_iload_n cx 1 d_R_earth_14 rfl rfl ?_
  refine v_xcallv (st := []) cx (s_R_needBuilt hroad h) yk_R_needBuilt lk_R_208 zl_0 rfl rfl rfl (Nat.le_of_ble_eq_true rfl) ⟨Nat.le_of_ble_eq_true rfl, Nat.le_of_ble_eq_true rfl⟩ ⟨(Nat.le_of_ble_eq_true rfl), (Nat.le_of_ble_eq_true rfl)⟩ d_R_earth_15 (fun σ3 h => ?_) (fun E σ1 hX => out _ _ _ _ _ _ (Nat.le_of_ble_eq_true rfl) (Nat.le_of_ble_eq_true rfl) hX)
  refine v_widen (k' := 3) (n' := 18) (Nat.le_of_ble_eq_true rfl) (Nat.le_of_ble_eq_true rfl) ?_
  refine v_aload_n cx 0 d_R_earth_18 rfl rfl ?_
  refine gf_R_69 cx d_R_earth_19 ?_
  refine v_iload_n cx 1 d_R_earth_22 rfl rfl ?_
  refine v_iload_n cx 2 d_R_earth_23 rfl rfl ?_
  refine v_callVi0 (st := []) cx (s_G_leastEarth hroad hrule h) yk_G_leastEarth lk_R_217 zl_35 rfl rfl rfl (Nat.le_of_ble_eq_true rfl) ⟨Nat.le_of_ble_eq_true rfl, Nat.le_of_ble_eq_true rfl⟩ ⟨rfl, rfl⟩ ⟨(Nat.le_of_ble_eq_true rfl), (Nat.le_of_ble_eq_true rfl)⟩ d_R_earth_24 (fun r5 σ4 hr5 h => ?_)
  exact rt _ _ _ _ _ _ (Nat.le_of_ble_eq_true rfl) (Nat.le_of_ble_eq_true rfl) d_R_earth_27 hr5 h
theorem zlk_R_water {a o0 o1 d : Int} (h0 : a ≠ 0) (h1 : a ≠ 1) : Op.lookupswitch.offset [(0, o0), (1, o1)] d a = d := by
  rw [Op.lookupswitch.offset_cons, if_neg (fun q => h0 q.symm), Op.lookupswitch.offset_cons, if_neg (fun q => h1 q.symm)]
  rfl
def q_R_water (place : Int) (what : Int) (K : Int → zS → Prop) (X : String → zS → Prop) (σ : zS) : Prop :=
  q_R_needPlace place (fun σ1 =>
    q_R_needAnswer what 3 (fun σ2 =>
      (what = 0 →
        q_S_runOf place (fun r5 σ4 =>
          K r5 σ4) σ2) ∧ (what = 1 →
        q_S_gather (fun σ7 =>
          q_S_catchOf place (fun r9 σ8 =>
            K r9 σ8) σ7) σ2) ∧ (what ≠ 0 ∧ what ≠ 1 →
        q_S_spillOf place (fun r11 σ10 =>
          K r11 σ10) σ2)) X σ1) X σ
abbrev rm_R_water : Room := { frames := 7, cells := 2, slots := 12, locals := 122 }
set_option maxRecDepth 20000 in
set_option maxHeartbeats 4000000 in
theorem s_R_water {Ω : zO} {ad : Nat → Nat} {place : Int} {what : Int} {K : Int → zS → Prop} {X : String → zS → Prop} {σ : zS} (hplace : zR place) (hwhat : zR what) (h : q_R_water place what K X σ) : zXi Ω y_R_water (.code y_R_water c_R_water 3 (some .int)) rm_R_water zLy ad [.ref (ad 0), .int (zI place), .int (zI what)] σ K X := by
  refine z_ofXi (lv := [(0, .ref (ad 0)), (1, .int (zI place)), (2, .int (zI what))]) (by decide) rfl (Nat.le_of_ble_eq_true rfl) ?_
  intro Γ Q cx rt th out
  unfold q_R_water at h
  refine v_aload_n cx 0 d_R_water_0 rfl rfl ?_
  refine v_iload_n cx 1 d_R_water_1 rfl rfl ?_
  refine v_xcallv (st := []) cx (s_R_needPlace hplace h) yk_R_needPlace lk_R_134 zl_0 rfl rfl rfl (Nat.le_of_ble_eq_true rfl) ⟨Nat.le_of_ble_eq_true rfl, Nat.le_of_ble_eq_true rfl⟩ ⟨(Nat.le_of_ble_eq_true rfl), (Nat.le_of_ble_eq_true rfl)⟩ d_R_water_2 (fun σ1 h => ?_) (fun E σ1 hX => out _ _ _ _ _ _ (Nat.le_of_ble_eq_true rfl) (Nat.le_of_ble_eq_true rfl) hX)
  refine v_widen (k' := 1) (n' := 6) (Nat.le_of_ble_eq_true rfl) (Nat.le_of_ble_eq_true rfl) ?_
  refine v_aload_n cx 0 d_R_water_5 rfl rfl ?_
  refine v_iload_n cx 2 d_R_water_6 rfl rfl ?_
  refine v_iconst cx d_R_water_7 ?_
  refine v_xcallv (st := []) cx (s_R_needAnswer hwhat ⟨by decide, by decide⟩ h) yk_R_needAnswer lk_R_137 zl_0 rfl rfl rfl (Nat.le_of_ble_eq_true rfl) ⟨Nat.le_of_ble_eq_true rfl, Nat.le_of_ble_eq_true rfl⟩ ⟨(Nat.le_of_ble_eq_true rfl), (Nat.le_of_ble_eq_true rfl)⟩ d_R_water_8 (fun σ2 h => ?_) (fun E σ1 hX => out _ _ _ _ _ _ (Nat.le_of_ble_eq_true rfl) (Nat.le_of_ble_eq_true rfl) hX)
  refine v_widen (k' := 2) (n' := 12) (Nat.le_of_ble_eq_true rfl) (Nat.le_of_ble_eq_true rfl) ?_
  refine v_iload_n cx 2 d_R_water_11 rfl rfl ?_
  by_cases c3 : what = 0
  · replace h := h.1 c3
    refine v_lookup (off := 28) cx 40 d_R_water_12 rfl (by rw [c3]; try rfl) (by decide) hwhat ?_
    refine v_aload_n cx 0 d_R_water_40 rfl rfl ?_
    refine gf_R_44 cx d_R_water_41 ?_
    refine v_iload_n cx 1 d_R_water_44 rfl rfl ?_
    refine v_callVi0 (st := []) cx (s_S_runOf hplace h) yk_S_runOf lk_R_277 zl_11 rfl rfl rfl (Nat.le_of_ble_eq_true rfl) ⟨Nat.le_of_ble_eq_true rfl, Nat.le_of_ble_eq_true rfl⟩ ⟨rfl, rfl⟩ ⟨(Nat.le_of_ble_eq_true rfl), (Nat.le_of_ble_eq_true rfl)⟩ d_R_water_45 (fun r5 σ4 hr5 h => ?_)
    exact rt _ _ _ _ _ _ (Nat.le_of_ble_eq_true rfl) (Nat.le_of_ble_eq_true rfl) d_R_water_48 hr5 h
  replace h := h.2
  by_cases c6 : what = 1
  · replace h := h.1 c6
    refine v_lookup (off := 37) cx 49 d_R_water_12 rfl (by rw [c6]; try rfl) (by decide) hwhat ?_
    refine v_aload_n cx 0 d_R_water_49 rfl rfl ?_
    refine gf_R_44 cx d_R_water_50 ?_
    refine v_callVv0 (st := []) cx (s_S_gather  h) yk_S_gather lk_R_280 zl_11 rfl rfl rfl (Nat.le_of_ble_eq_true rfl) ⟨Nat.le_of_ble_eq_true rfl, Nat.le_of_ble_eq_true rfl⟩ ⟨rfl, rfl⟩ ⟨(Nat.le_of_ble_eq_true rfl), (Nat.le_of_ble_eq_true rfl)⟩ d_R_water_53 (fun σ7 h => ?_)
    refine v_aload_n cx 0 d_R_water_56 rfl rfl ?_
    refine gf_R_44 cx d_R_water_57 ?_
    refine v_iload_n cx 1 d_R_water_60 rfl rfl ?_
    refine v_callVi0 (st := []) cx (s_S_catchOf hplace h) yk_S_catchOf lk_R_283 zl_11 rfl rfl rfl (Nat.le_of_ble_eq_true rfl) ⟨Nat.le_of_ble_eq_true rfl, Nat.le_of_ble_eq_true rfl⟩ ⟨rfl, rfl⟩ ⟨(Nat.le_of_ble_eq_true rfl), (Nat.le_of_ble_eq_true rfl)⟩ d_R_water_61 (fun r9 σ8 hr9 h => ?_)
    exact rt _ _ _ _ _ _ (Nat.le_of_ble_eq_true rfl) (Nat.le_of_ble_eq_true rfl) d_R_water_64 hr9 h
  replace h := h.2
  replace h := h ⟨c3, c6⟩
  refine v_lookup (off := 53) cx 65 d_R_water_12 rfl (zlk_R_water c3 c6) (by decide) hwhat ?_
  refine v_aload_n cx 0 d_R_water_65 rfl rfl ?_
  refine gf_R_44 cx d_R_water_66 ?_
  refine v_iload_n cx 1 d_R_water_69 rfl rfl ?_
  refine v_callVi0 (st := []) cx (s_S_spillOf hplace h) yk_S_spillOf lk_R_286 zl_11 rfl rfl rfl (Nat.le_of_ble_eq_true rfl) ⟨Nat.le_of_ble_eq_true rfl, Nat.le_of_ble_eq_true rfl⟩ ⟨rfl, rfl⟩ ⟨(Nat.le_of_ble_eq_true rfl), (Nat.le_of_ble_eq_true rfl)⟩ d_R_water_70 (fun r11 σ10 hr11 h => ?_)
  exact rt _ _ _ _ _ _ (Nat.le_of_ble_eq_true rfl) (Nat.le_of_ble_eq_true rfl) d_R_water_73 hr11 h
def q_R_bridges (road : Int) (n_ : Int) (K : Int → zS → Prop) (X : String → zS → Prop) (σ : zS) : Prop :=
  q_R_needRoad road (fun σ1 =>
    q_R_needNumber n_ 1 81 (fun σ2 =>
      q_R_needBuilt road (fun σ3 =>
        q_U_bridgesOver road n_ (fun r5 σ4 =>
          K r5 σ4) σ3) X σ2) X σ1) X σ
abbrev rm_R_bridges : Room := { frames := 7, cells := 3, slots := 18, locals := 123 }
set_option maxRecDepth 20000 in
set_option maxHeartbeats 4000000 in
theorem s_R_bridges {Ω : zO} {ad : Nat → Nat} {road : Int} {n_ : Int} {K : Int → zS → Prop} {X : String → zS → Prop} {σ : zS} (hroad : zR road) (hn_ : zR n_) (h : q_R_bridges road n_ K X σ) : zXi Ω y_R_bridges (.code y_R_bridges c_R_bridges 3 (some .int)) rm_R_bridges zLy ad [.ref (ad 0), .int (zI road), .int (zI n_)] σ K X := by
  refine z_ofXi (lv := [(0, .ref (ad 0)), (1, .int (zI road)), (2, .int (zI n_))]) (by decide) rfl (Nat.le_of_ble_eq_true rfl) ?_
  intro Γ Q cx rt th out
  unfold q_R_bridges at h
  refine v_aload_n cx 0 d_R_bridges_0 rfl rfl ?_
  refine v_iload_n cx 1 d_R_bridges_1 rfl rfl ?_
  refine v_xcallv (st := []) cx (s_R_needRoad hroad h) yk_R_needRoad lk_R_180 zl_0 rfl rfl rfl (Nat.le_of_ble_eq_true rfl) ⟨Nat.le_of_ble_eq_true rfl, Nat.le_of_ble_eq_true rfl⟩ ⟨(Nat.le_of_ble_eq_true rfl), (Nat.le_of_ble_eq_true rfl)⟩ d_R_bridges_2 (fun σ1 h => ?_) (fun E σ1 hX => out _ _ _ _ _ _ (Nat.le_of_ble_eq_true rfl) (Nat.le_of_ble_eq_true rfl) hX)
  refine v_widen (k' := 1) (n' := 6) (Nat.le_of_ble_eq_true rfl) (Nat.le_of_ble_eq_true rfl) ?_
  refine v_aload_n cx 0 d_R_bridges_5 rfl rfl ?_
  refine v_iload_n cx 2 d_R_bridges_6 rfl rfl ?_
  refine v_iconst cx d_R_bridges_7 ?_
  refine v_bipush cx (by decide) d_R_bridges_8 ?_
  refine v_xcallv (st := []) cx (s_R_needNumber hn_ ⟨by decide, by decide⟩ ⟨by decide, by decide⟩ h) yk_R_needNumber lk_R_163 zl_0 rfl rfl rfl (Nat.le_of_ble_eq_true rfl) ⟨Nat.le_of_ble_eq_true rfl, Nat.le_of_ble_eq_true rfl⟩ ⟨(Nat.le_of_ble_eq_true rfl), (Nat.le_of_ble_eq_true rfl)⟩ d_R_bridges_10 (fun σ2 h => ?_) (fun E σ1 hX => out _ _ _ _ _ _ (Nat.le_of_ble_eq_true rfl) (Nat.le_of_ble_eq_true rfl) hX)
  refine v_widen (k' := 2) (n' := 12) (Nat.le_of_ble_eq_true rfl) (Nat.le_of_ble_eq_true rfl) ?_
  refine v_aload_n cx 0 d_R_bridges_13 rfl rfl ?_
  refine v_iload_n cx 1 d_R_bridges_14 rfl rfl ?_
  refine v_xcallv (st := []) cx (s_R_needBuilt hroad h) yk_R_needBuilt lk_R_208 zl_0 rfl rfl rfl (Nat.le_of_ble_eq_true rfl) ⟨Nat.le_of_ble_eq_true rfl, Nat.le_of_ble_eq_true rfl⟩ ⟨(Nat.le_of_ble_eq_true rfl), (Nat.le_of_ble_eq_true rfl)⟩ d_R_bridges_15 (fun σ3 h => ?_) (fun E σ1 hX => out _ _ _ _ _ _ (Nat.le_of_ble_eq_true rfl) (Nat.le_of_ble_eq_true rfl) hX)
  refine v_widen (k' := 3) (n' := 18) (Nat.le_of_ble_eq_true rfl) (Nat.le_of_ble_eq_true rfl) ?_
  refine v_aload_n cx 0 d_R_bridges_18 rfl rfl ?_
  refine gf_R_78 cx d_R_bridges_19 ?_
  refine v_iload_n cx 1 d_R_bridges_22 rfl rfl ?_
  refine v_iload_n cx 2 d_R_bridges_23 rfl rfl ?_
  refine v_callVi0 (st := []) cx (s_U_bridgesOver hroad hn_ h) yk_U_bridgesOver lk_R_289 zl_38 rfl rfl rfl (Nat.le_of_ble_eq_true rfl) ⟨Nat.le_of_ble_eq_true rfl, Nat.le_of_ble_eq_true rfl⟩ ⟨rfl, rfl⟩ ⟨(Nat.le_of_ble_eq_true rfl), (Nat.le_of_ble_eq_true rfl)⟩ d_R_bridges_24 (fun r5 σ4 hr5 h => ?_)
  exact rt _ _ _ _ _ _ (Nat.le_of_ble_eq_true rfl) (Nat.le_of_ble_eq_true rfl) d_R_bridges_27 hr5 h
def q_R_joins (place : Int) (road : Int) (what : Int) (K : Int → zS → Prop) (X : String → zS → Prop) (σ : zS) : Prop :=
  q_R_needPlace place (fun σ1 =>
    q_R_needRoad road (fun σ2 =>
      q_R_needAnswer what 2 (fun σ3 =>
        q_R_needBuilt road (fun σ4 =>
          q_N_joiningIndex place road (fun r6 σ5 =>
            (r6 ≠ (-1) →
              q_L_roadPlace road r6 (fun r9 σ8 =>
                (what ≠ 0 →
                  q_W_costBetween r9 place (fun r12 σ11 =>
                    K r12 σ11) σ8) ∧ (what = 0 →
                  K r9 σ8)) σ5) ∧ (r6 = (-1) →
              K (-1) σ5)) σ4) X σ3) X σ2) X σ1) X σ
abbrev rm_R_joins : Room := { frames := 7, cells := 4, slots := 24, locals := 148 }
set_option maxRecDepth 20000 in
set_option maxHeartbeats 4000000 in
theorem s_R_joins {Ω : zO} {ad : Nat → Nat} {place : Int} {road : Int} {what : Int} {K : Int → zS → Prop} {X : String → zS → Prop} {σ : zS} (hplace : zR place) (hroad : zR road) (hwhat : zR what) (h : q_R_joins place road what K X σ) : zXi Ω y_R_joins (.code y_R_joins c_R_joins 6 (some .int)) rm_R_joins zLy ad [.ref (ad 0), .int (zI place), .int (zI road), .int (zI what)] σ K X := by
  refine z_ofXi (lv := [(0, .ref (ad 0)), (1, .int (zI place)), (2, .int (zI road)), (3, .int (zI what))]) (by decide) rfl (Nat.le_of_ble_eq_true rfl) ?_
  intro Γ Q cx rt th out
  unfold q_R_joins at h
  refine v_aload_n cx 0 d_R_joins_0 rfl rfl ?_
  refine v_iload_n cx 1 d_R_joins_1 rfl rfl ?_
  refine v_xcallv (st := []) cx (s_R_needPlace hplace h) yk_R_needPlace lk_R_134 zl_0 rfl rfl rfl (Nat.le_of_ble_eq_true rfl) ⟨Nat.le_of_ble_eq_true rfl, Nat.le_of_ble_eq_true rfl⟩ ⟨(Nat.le_of_ble_eq_true rfl), (Nat.le_of_ble_eq_true rfl)⟩ d_R_joins_2 (fun σ1 h => ?_) (fun E σ1 hX => out _ _ _ _ _ _ (Nat.le_of_ble_eq_true rfl) (Nat.le_of_ble_eq_true rfl) hX)
  refine v_widen (k' := 1) (n' := 6) (Nat.le_of_ble_eq_true rfl) (Nat.le_of_ble_eq_true rfl) ?_
  refine v_aload_n cx 0 d_R_joins_5 rfl rfl ?_
  refine v_iload_n cx 2 d_R_joins_6 rfl rfl ?_
  refine v_xcallv (st := []) cx (s_R_needRoad hroad h) yk_R_needRoad lk_R_180 zl_0 rfl rfl rfl (Nat.le_of_ble_eq_true rfl) ⟨Nat.le_of_ble_eq_true rfl, Nat.le_of_ble_eq_true rfl⟩ ⟨(Nat.le_of_ble_eq_true rfl), (Nat.le_of_ble_eq_true rfl)⟩ d_R_joins_7 (fun σ2 h => ?_) (fun E σ1 hX => out _ _ _ _ _ _ (Nat.le_of_ble_eq_true rfl) (Nat.le_of_ble_eq_true rfl) hX)
  refine v_widen (k' := 2) (n' := 12) (Nat.le_of_ble_eq_true rfl) (Nat.le_of_ble_eq_true rfl) ?_
  refine v_aload_n cx 0 d_R_joins_10 rfl rfl ?_
  refine v_iload_n cx 3 d_R_joins_11 rfl rfl ?_
  refine v_iconst cx d_R_joins_12 ?_
  refine v_xcallv (st := []) cx (s_R_needAnswer hwhat ⟨by decide, by decide⟩ h) yk_R_needAnswer lk_R_137 zl_0 rfl rfl rfl (Nat.le_of_ble_eq_true rfl) ⟨Nat.le_of_ble_eq_true rfl, Nat.le_of_ble_eq_true rfl⟩ ⟨(Nat.le_of_ble_eq_true rfl), (Nat.le_of_ble_eq_true rfl)⟩ d_R_joins_13 (fun σ3 h => ?_) (fun E σ1 hX => out _ _ _ _ _ _ (Nat.le_of_ble_eq_true rfl) (Nat.le_of_ble_eq_true rfl) hX)
  refine v_widen (k' := 3) (n' := 18) (Nat.le_of_ble_eq_true rfl) (Nat.le_of_ble_eq_true rfl) ?_
  refine v_aload_n cx 0 d_R_joins_16 rfl rfl ?_
  refine v_iload_n cx 2 d_R_joins_17 rfl rfl ?_
  refine v_xcallv (st := []) cx (s_R_needBuilt hroad h) yk_R_needBuilt lk_R_208 zl_0 rfl rfl rfl (Nat.le_of_ble_eq_true rfl) ⟨Nat.le_of_ble_eq_true rfl, Nat.le_of_ble_eq_true rfl⟩ ⟨(Nat.le_of_ble_eq_true rfl), (Nat.le_of_ble_eq_true rfl)⟩ d_R_joins_18 (fun σ4 h => ?_) (fun E σ1 hX => out _ _ _ _ _ _ (Nat.le_of_ble_eq_true rfl) (Nat.le_of_ble_eq_true rfl) hX)
  refine v_widen (k' := 4) (n' := 24) (Nat.le_of_ble_eq_true rfl) (Nat.le_of_ble_eq_true rfl) ?_
  refine v_aload_n cx 0 d_R_joins_21 rfl rfl ?_
  refine gf_R_62 cx d_R_joins_22 ?_
  refine v_iload_n cx 1 d_R_joins_25 rfl rfl ?_
  refine v_iload_n cx 2 d_R_joins_26 rfl rfl ?_
  refine v_callVi0 (st := []) cx (s_N_joiningIndex hplace hroad h) yk_N_joiningIndex lk_R_292 zl_28 rfl rfl rfl (Nat.le_of_ble_eq_true rfl) ⟨Nat.le_of_ble_eq_true rfl, Nat.le_of_ble_eq_true rfl⟩ ⟨rfl, rfl⟩ ⟨(Nat.le_of_ble_eq_true rfl), (Nat.le_of_ble_eq_true rfl)⟩ d_R_joins_27 (fun r6 σ5 hr6 h => ?_)
  refine v_istore (lv' := [(0, .ref (ad 0)), (1, .int (zI place)), (2, .int (zI road)), (3, .int (zI what)), (4, .int (zI r6))]) cx d_R_joins_30 (by decide) rfl rfl ?_
  refine v_iload cx 4 d_R_joins_32 rfl ?_
  refine v_iconst cx d_R_joins_34 ?_
  refine v_icmp_ne cx 40 d_R_joins_35 (by decide) hr6 ⟨by decide, by decide⟩ (fun c7 => ?_) (fun c7 => ?_)
  · replace h := h.1 c7
    refine v_aload_n cx 0 d_R_joins_40 rfl rfl ?_
    refine gf_R_19 cx d_R_joins_41 ?_
    refine v_iload_n cx 2 d_R_joins_44 rfl rfl ?_
    refine v_iload cx 4 d_R_joins_45 rfl ?_
    refine v_callVi0 (st := []) cx (s_L_roadPlace hroad hr6 h) yk_L_roadPlace lk_R_274 zl_3 rfl rfl rfl (Nat.le_of_ble_eq_true rfl) ⟨Nat.le_of_ble_eq_true rfl, Nat.le_of_ble_eq_true rfl⟩ ⟨rfl, rfl⟩ ⟨(Nat.le_of_ble_eq_true rfl), (Nat.le_of_ble_eq_true rfl)⟩ d_R_joins_47 (fun r9 σ8 hr9 h => ?_)
    refine v_istore (lv' := [(0, .ref (ad 0)), (1, .int (zI place)), (2, .int (zI road)), (3, .int (zI what)), (4, .int (zI r6)), (5, .int (zI r9))]) cx d_R_joins_50 (by decide) rfl rfl ?_
    refine v_iload_n cx 3 d_R_joins_52 rfl rfl ?_
    refine v_if_ne cx 61 d_R_joins_53 (by decide) hwhat (fun c10 => ?_) (fun c10 => ?_)
    · replace h := h.1 c10
      refine v_aload_n cx 0 d_R_joins_61 rfl rfl ?_
      refine gf_R_53 cx d_R_joins_62 ?_
      refine v_iload cx 5 d_R_joins_65 rfl ?_
      refine v_iload_n cx 1 d_R_joins_67 rfl rfl ?_
      refine v_callVi0 (st := []) cx (s_W_costBetween hr9 hplace h) yk_W_costBetween lk_R_295 zl_15 rfl rfl rfl (Nat.le_of_ble_eq_true rfl) ⟨Nat.le_of_ble_eq_true rfl, Nat.le_of_ble_eq_true rfl⟩ ⟨rfl, rfl⟩ ⟨(Nat.le_of_ble_eq_true rfl), (Nat.le_of_ble_eq_true rfl)⟩ d_R_joins_68 (fun r12 σ11 hr12 h => ?_)
      exact rt _ _ _ _ _ _ (Nat.le_of_ble_eq_true rfl) (Nat.le_of_ble_eq_true rfl) d_R_joins_71 hr12 h
    · replace h := h.2 c10
      refine v_iload cx 5 d_R_joins_56 rfl ?_
      refine v_goto cx 71 d_R_joins_58 (by decide) ?_
      exact rt _ _ _ _ _ _ (Nat.le_of_ble_eq_true rfl) (Nat.le_of_ble_eq_true rfl) d_R_joins_71 hr9 h
  · replace h := h.2 c7
    refine v_iconst cx d_R_joins_38 ?_
    exact rt _ _ _ _ _ _ (Nat.le_of_ble_eq_true rfl) (Nat.le_of_ble_eq_true rfl) d_R_joins_39 ⟨by decide, by decide⟩ h
def q_R_spare (from_ : Int) (to_ : Int) (what : Int) (K : Int → zS → Prop) (X : String → zS → Prop) (σ : zS) : Prop :=
  q_R_needPair from_ to_ (fun σ1 =>
    q_R_needAnswer what 2 (fun σ2 =>
      q_R_needUnlike from_ to_ (fun σ3 =>
        q_N_dearestStep from_ to_ (fun r5 σ4 =>
          (what ≠ 0 →
            q_N_dearestCost (fun r8 σ7 =>
              K r8 σ7) σ4) ∧ (what = 0 →
            K r5 σ4)) σ3) X σ2) X σ1) X σ
abbrev rm_R_spare : Room := { frames := 8, cells := 4, slots := 24, locals := 153 }
set_option maxRecDepth 20000 in
set_option maxHeartbeats 4000000 in
theorem s_R_spare {Ω : zO} {ad : Nat → Nat} {from_ : Int} {to_ : Int} {what : Int} {K : Int → zS → Prop} {X : String → zS → Prop} {σ : zS} (hfrom_ : zR from_) (hto_ : zR to_) (hwhat : zR what) (h : q_R_spare from_ to_ what K X σ) : zXi Ω y_R_spare (.code y_R_spare c_R_spare 5 (some .int)) rm_R_spare zLy ad [.ref (ad 0), .int (zI from_), .int (zI to_), .int (zI what)] σ K X := by
  refine z_ofXi (lv := [(0, .ref (ad 0)), (1, .int (zI from_)), (2, .int (zI to_)), (3, .int (zI what))]) (by decide) rfl (Nat.le_of_ble_eq_true rfl) ?_
  intro Γ Q cx rt th out
  unfold q_R_spare at h
  refine v_aload_n cx 0 d_R_spare_0 rfl rfl ?_
  refine v_iload_n cx 1 d_R_spare_1 rfl rfl ?_
  refine v_iload_n cx 2 d_R_spare_2 rfl rfl ?_
  refine v_xcallv (st := []) cx (s_R_needPair hfrom_ hto_ h) yk_R_needPair lk_R_183 zl_0 rfl rfl rfl (Nat.le_of_ble_eq_true rfl) ⟨Nat.le_of_ble_eq_true rfl, Nat.le_of_ble_eq_true rfl⟩ ⟨(Nat.le_of_ble_eq_true rfl), (Nat.le_of_ble_eq_true rfl)⟩ d_R_spare_3 (fun σ1 h => ?_) (fun E σ1 hX => out _ _ _ _ _ _ (Nat.le_of_ble_eq_true rfl) (Nat.le_of_ble_eq_true rfl) hX)
  refine v_widen (k' := 2) (n' := 12) (Nat.le_of_ble_eq_true rfl) (Nat.le_of_ble_eq_true rfl) ?_
  refine v_aload_n cx 0 d_R_spare_6 rfl rfl ?_
  refine v_iload_n cx 3 d_R_spare_7 rfl rfl ?_
  refine v_iconst cx d_R_spare_8 ?_
  refine v_xcallv (st := []) cx (s_R_needAnswer hwhat ⟨by decide, by decide⟩ h) yk_R_needAnswer lk_R_137 zl_0 rfl rfl rfl (Nat.le_of_ble_eq_true rfl) ⟨Nat.le_of_ble_eq_true rfl, Nat.le_of_ble_eq_true rfl⟩ ⟨(Nat.le_of_ble_eq_true rfl), (Nat.le_of_ble_eq_true rfl)⟩ d_R_spare_9 (fun σ2 h => ?_) (fun E σ1 hX => out _ _ _ _ _ _ (Nat.le_of_ble_eq_true rfl) (Nat.le_of_ble_eq_true rfl) hX)
  refine v_widen (k' := 3) (n' := 18) (Nat.le_of_ble_eq_true rfl) (Nat.le_of_ble_eq_true rfl) ?_
  refine v_aload_n cx 0 d_R_spare_12 rfl rfl ?_
  refine v_iload_n cx 1 d_R_spare_13 rfl rfl ?_
  refine v_iload_n cx 2 d_R_spare_14 rfl rfl ?_
  refine v_xcallv (st := []) cx (s_R_needUnlike hfrom_ hto_ h) yk_R_needUnlike lk_R_186 zl_0 rfl rfl rfl (Nat.le_of_ble_eq_true rfl) ⟨Nat.le_of_ble_eq_true rfl, Nat.le_of_ble_eq_true rfl⟩ ⟨(Nat.le_of_ble_eq_true rfl), (Nat.le_of_ble_eq_true rfl)⟩ d_R_spare_15 (fun σ3 h => ?_) (fun E σ1 hX => out _ _ _ _ _ _ (Nat.le_of_ble_eq_true rfl) (Nat.le_of_ble_eq_true rfl) hX)
  refine v_widen (k' := 4) (n' := 24) (Nat.le_of_ble_eq_true rfl) (Nat.le_of_ble_eq_true rfl) ?_
  refine v_aload_n cx 0 d_R_spare_18 rfl rfl ?_
  refine gf_R_62 cx d_R_spare_19 ?_
  refine v_iload_n cx 1 d_R_spare_22 rfl rfl ?_
  refine v_iload_n cx 2 d_R_spare_23 rfl rfl ?_
  refine v_callVi0 (st := []) cx (s_N_dearestStep hfrom_ hto_ h) yk_N_dearestStep lk_R_298 zl_28 rfl rfl rfl (Nat.le_of_ble_eq_true rfl) ⟨Nat.le_of_ble_eq_true rfl, Nat.le_of_ble_eq_true rfl⟩ ⟨rfl, rfl⟩ ⟨(Nat.le_of_ble_eq_true rfl), (Nat.le_of_ble_eq_true rfl)⟩ d_R_spare_24 (fun r5 σ4 hr5 h => ?_)
  refine v_istore (lv' := [(0, .ref (ad 0)), (1, .int (zI from_)), (2, .int (zI to_)), (3, .int (zI what)), (4, .int (zI r5))]) cx d_R_spare_27 (by decide) rfl rfl ?_
  refine v_iload_n cx 3 d_R_spare_29 rfl rfl ?_
  refine v_if_ne cx 38 d_R_spare_30 (by decide) hwhat (fun c6 => ?_) (fun c6 => ?_)
  · replace h := h.1 c6
    refine v_aload_n cx 0 d_R_spare_38 rfl rfl ?_
    refine gf_R_62 cx d_R_spare_39 ?_
    refine v_callVi0 (st := []) cx (s_N_dearestCost  h) yk_N_dearestCost lk_R_301 zl_28 rfl rfl rfl (Nat.le_of_ble_eq_true rfl) ⟨Nat.le_of_ble_eq_true rfl, Nat.le_of_ble_eq_true rfl⟩ ⟨rfl, rfl⟩ ⟨(Nat.le_of_ble_eq_true rfl), (Nat.le_of_ble_eq_true rfl)⟩ d_R_spare_42 (fun r8 σ7 hr8 h => ?_)
    exact rt _ _ _ _ _ _ (Nat.le_of_ble_eq_true rfl) (Nat.le_of_ble_eq_true rfl) d_R_spare_45 hr8 h
  · replace h := h.2 c6
    refine v_iload cx 4 d_R_spare_33 rfl ?_
    refine v_goto cx 45 d_R_spare_35 (by decide) ?_
    exact rt _ _ _ _ _ _ (Nat.le_of_ble_eq_true rfl) (Nat.le_of_ble_eq_true rfl) d_R_spare_45 hr5 h
def q_R_stages (road : Int) (n_ : Int) (K : Int → zS → Prop) (X : String → zS → Prop) (σ : zS) : Prop :=
  q_R_needRoad road (fun σ1 =>
    q_R_needNumber n_ 1 6 (fun σ2 =>
      q_R_needBuilt road (fun σ3 =>
        q_U_leastStage road n_ (fun r5 σ4 =>
          K r5 σ4) σ3) X σ2) X σ1) X σ
abbrev rm_R_stages : Room := { frames := 7, cells := 3, slots := 18, locals := 123 }
set_option maxRecDepth 20000 in
set_option maxHeartbeats 4000000 in
theorem s_R_stages {Ω : zO} {ad : Nat → Nat} {road : Int} {n_ : Int} {K : Int → zS → Prop} {X : String → zS → Prop} {σ : zS} (hroad : zR road) (hn_ : zR n_) (h : q_R_stages road n_ K X σ) : zXi Ω y_R_stages (.code y_R_stages c_R_stages 3 (some .int)) rm_R_stages zLy ad [.ref (ad 0), .int (zI road), .int (zI n_)] σ K X := by
  refine z_ofXi (lv := [(0, .ref (ad 0)), (1, .int (zI road)), (2, .int (zI n_))]) (by decide) rfl (Nat.le_of_ble_eq_true rfl) ?_
  intro Γ Q cx rt th out
  unfold q_R_stages at h
  refine v_aload_n cx 0 d_R_stages_0 rfl rfl ?_
  refine v_iload_n cx 1 d_R_stages_1 rfl rfl ?_
  refine v_xcallv (st := []) cx (s_R_needRoad hroad h) yk_R_needRoad lk_R_180 zl_0 rfl rfl rfl (Nat.le_of_ble_eq_true rfl) ⟨Nat.le_of_ble_eq_true rfl, Nat.le_of_ble_eq_true rfl⟩ ⟨(Nat.le_of_ble_eq_true rfl), (Nat.le_of_ble_eq_true rfl)⟩ d_R_stages_2 (fun σ1 h => ?_) (fun E σ1 hX => out _ _ _ _ _ _ (Nat.le_of_ble_eq_true rfl) (Nat.le_of_ble_eq_true rfl) hX)
  refine v_widen (k' := 1) (n' := 6) (Nat.le_of_ble_eq_true rfl) (Nat.le_of_ble_eq_true rfl) ?_
  refine v_aload_n cx 0 d_R_stages_5 rfl rfl ?_
  refine v_iload_n cx 2 d_R_stages_6 rfl rfl ?_
  refine v_iconst cx d_R_stages_7 ?_
  refine v_bipush cx (by decide) d_R_stages_8 ?_
  refine v_xcallv (st := []) cx (s_R_needNumber hn_ ⟨by decide, by decide⟩ ⟨by decide, by decide⟩ h) yk_R_needNumber lk_R_163 zl_0 rfl rfl rfl (Nat.le_of_ble_eq_true rfl) ⟨Nat.le_of_ble_eq_true rfl, Nat.le_of_ble_eq_true rfl⟩ ⟨(Nat.le_of_ble_eq_true rfl), (Nat.le_of_ble_eq_true rfl)⟩ d_R_stages_10 (fun σ2 h => ?_) (fun E σ1 hX => out _ _ _ _ _ _ (Nat.le_of_ble_eq_true rfl) (Nat.le_of_ble_eq_true rfl) hX)
  refine v_widen (k' := 2) (n' := 12) (Nat.le_of_ble_eq_true rfl) (Nat.le_of_ble_eq_true rfl) ?_
  refine v_aload_n cx 0 d_R_stages_13 rfl rfl ?_
  refine v_iload_n cx 1 d_R_stages_14 rfl rfl ?_
  refine v_xcallv (st := []) cx (s_R_needBuilt hroad h) yk_R_needBuilt lk_R_208 zl_0 rfl rfl rfl (Nat.le_of_ble_eq_true rfl) ⟨Nat.le_of_ble_eq_true rfl, Nat.le_of_ble_eq_true rfl⟩ ⟨(Nat.le_of_ble_eq_true rfl), (Nat.le_of_ble_eq_true rfl)⟩ d_R_stages_15 (fun σ3 h => ?_) (fun E σ1 hX => out _ _ _ _ _ _ (Nat.le_of_ble_eq_true rfl) (Nat.le_of_ble_eq_true rfl) hX)
  refine v_widen (k' := 3) (n' := 18) (Nat.le_of_ble_eq_true rfl) (Nat.le_of_ble_eq_true rfl) ?_
  refine v_aload_n cx 0 d_R_stages_18 rfl rfl ?_
  refine gf_R_78 cx d_R_stages_19 ?_
  refine v_iload_n cx 1 d_R_stages_22 rfl rfl ?_
  refine v_iload_n cx 2 d_R_stages_23 rfl rfl ?_
  refine v_callVi0 (st := []) cx (s_U_leastStage hroad hn_ h) yk_U_leastStage lk_R_304 zl_38 rfl rfl rfl (Nat.le_of_ble_eq_true rfl) ⟨Nat.le_of_ble_eq_true rfl, Nat.le_of_ble_eq_true rfl⟩ ⟨rfl, rfl⟩ ⟨(Nat.le_of_ble_eq_true rfl), (Nat.le_of_ble_eq_true rfl)⟩ d_R_stages_24 (fun r5 σ4 hr5 h => ?_)
  exact rt _ _ _ _ _ _ (Nat.le_of_ble_eq_true rfl) (Nat.le_of_ble_eq_true rfl) d_R_stages_27 hr5 h
def q_R_common (road : Int) (other : Int) (K : Int → zS → Prop) (X : String → zS → Prop) (σ : zS) : Prop :=
  q_R_needRoad road (fun σ1 =>
    q_R_needRoad other (fun σ2 =>
      q_R_needUnlike road other (fun σ3 =>
        q_R_needBuilt road (fun σ4 =>
          q_R_needBuilt other (fun σ5 =>
            q_U_shared road other (fun r7 σ6 =>
              K r7 σ6) σ5) X σ4) X σ3) X σ2) X σ1) X σ
abbrev rm_R_common : Room := { frames := 7, cells := 5, slots := 30, locals := 122 }
set_option maxRecDepth 20000 in
set_option maxHeartbeats 4000000 in
theorem s_R_common {Ω : zO} {ad : Nat → Nat} {road : Int} {other : Int} {K : Int → zS → Prop} {X : String → zS → Prop} {σ : zS} (hroad : zR road) (hother : zR other) (h : q_R_common road other K X σ) : zXi Ω y_R_common (.code y_R_common c_R_common 3 (some .int)) rm_R_common zLy ad [.ref (ad 0), .int (zI road), .int (zI other)] σ K X := by
  refine z_ofXi (lv := [(0, .ref (ad 0)), (1, .int (zI road)), (2, .int (zI other))]) (by decide) rfl (Nat.le_of_ble_eq_true rfl) ?_
  intro Γ Q cx rt th out
  unfold q_R_common at h
  refine v_aload_n cx 0 d_R_common_0 rfl rfl ?_
  refine v_iload_n cx 1 d_R_common_1 rfl rfl ?_
  refine v_xcallv (st := []) cx (s_R_needRoad hroad h) yk_R_needRoad lk_R_180 zl_0 rfl rfl rfl (Nat.le_of_ble_eq_true rfl) ⟨Nat.le_of_ble_eq_true rfl, Nat.le_of_ble_eq_true rfl⟩ ⟨(Nat.le_of_ble_eq_true rfl), (Nat.le_of_ble_eq_true rfl)⟩ d_R_common_2 (fun σ1 h => ?_) (fun E σ1 hX => out _ _ _ _ _ _ (Nat.le_of_ble_eq_true rfl) (Nat.le_of_ble_eq_true rfl) hX)
  refine v_widen (k' := 1) (n' := 6) (Nat.le_of_ble_eq_true rfl) (Nat.le_of_ble_eq_true rfl) ?_
  refine v_aload_n cx 0 d_R_common_5 rfl rfl ?_
  refine v_iload_n cx 2 d_R_common_6 rfl rfl ?_
  refine v_xcallv (st := []) cx (s_R_needRoad hother h) yk_R_needRoad lk_R_180 zl_0 rfl rfl rfl (Nat.le_of_ble_eq_true rfl) ⟨Nat.le_of_ble_eq_true rfl, Nat.le_of_ble_eq_true rfl⟩ ⟨(Nat.le_of_ble_eq_true rfl), (Nat.le_of_ble_eq_true rfl)⟩ d_R_common_7 (fun σ2 h => ?_) (fun E σ1 hX => out _ _ _ _ _ _ (Nat.le_of_ble_eq_true rfl) (Nat.le_of_ble_eq_true rfl) hX)
  refine v_widen (k' := 2) (n' := 12) (Nat.le_of_ble_eq_true rfl) (Nat.le_of_ble_eq_true rfl) ?_
  refine v_aload_n cx 0 d_R_common_10 rfl rfl ?_
  refine v_iload_n cx 1 d_R_common_11 rfl rfl ?_
  refine v_iload_n cx 2 d_R_common_12 rfl rfl ?_
  refine v_xcallv (st := []) cx (s_R_needUnlike hroad hother h) yk_R_needUnlike lk_R_186 zl_0 rfl rfl rfl (Nat.le_of_ble_eq_true rfl) ⟨Nat.le_of_ble_eq_true rfl, Nat.le_of_ble_eq_true rfl⟩ ⟨(Nat.le_of_ble_eq_true rfl), (Nat.le_of_ble_eq_true rfl)⟩ d_R_common_13 (fun σ3 h => ?_) (fun E σ1 hX => out _ _ _ _ _ _ (Nat.le_of_ble_eq_true rfl) (Nat.le_of_ble_eq_true rfl) hX)
  refine v_widen (k' := 3) (n' := 18) (Nat.le_of_ble_eq_true rfl) (Nat.le_of_ble_eq_true rfl) ?_
  refine v_aload_n cx 0 d_R_common_16 rfl rfl ?_
  refine v_iload_n cx 1 d_R_common_17 rfl rfl ?_
  refine v_xcallv (st := []) cx (s_R_needBuilt hroad h) yk_R_needBuilt lk_R_208 zl_0 rfl rfl rfl (Nat.le_of_ble_eq_true rfl) ⟨Nat.le_of_ble_eq_true rfl, Nat.le_of_ble_eq_true rfl⟩ ⟨(Nat.le_of_ble_eq_true rfl), (Nat.le_of_ble_eq_true rfl)⟩ d_R_common_18 (fun σ4 h => ?_) (fun E σ1 hX => out _ _ _ _ _ _ (Nat.le_of_ble_eq_true rfl) (Nat.le_of_ble_eq_true rfl) hX)
  refine v_widen (k' := 4) (n' := 24) (Nat.le_of_ble_eq_true rfl) (Nat.le_of_ble_eq_true rfl) ?_
  refine v_aload_n cx 0 d_R_common_21 rfl rfl ?_
  refine v_iload_n cx 2 d_R_common_22 rfl rfl ?_
  refine v_xcallv (st := []) cx (s_R_needBuilt hother h) yk_R_needBuilt lk_R_208 zl_0 rfl rfl rfl (Nat.le_of_ble_eq_true rfl) ⟨Nat.le_of_ble_eq_true rfl, Nat.le_of_ble_eq_true rfl⟩ ⟨(Nat.le_of_ble_eq_true rfl), (Nat.le_of_ble_eq_true rfl)⟩ d_R_common_23 (fun σ5 h => ?_) (fun E σ1 hX => out _ _ _ _ _ _ (Nat.le_of_ble_eq_true rfl) (Nat.le_of_ble_eq_true rfl) hX)
  refine v_widen (k' := 5) (n' := 30) (Nat.le_of_ble_eq_true rfl) (Nat.le_of_ble_eq_true rfl) ?_
  refine v_aload_n cx 0 d_R_common_26 rfl rfl ?_
  refine gf_R_78 cx d_R_common_27 ?_
  refine v_iload_n cx 1 d_R_common_30 rfl rfl ?_
  refine v_iload_n cx 2 d_R_common_31 rfl rfl ?_
  refine v_callVi0 (st := []) cx (s_U_shared hroad hother h) yk_U_shared lk_R_307 zl_38 rfl rfl rfl (Nat.le_of_ble_eq_true rfl) ⟨Nat.le_of_ble_eq_true rfl, Nat.le_of_ble_eq_true rfl⟩ ⟨rfl, rfl⟩ ⟨(Nat.le_of_ble_eq_true rfl), (Nat.le_of_ble_eq_true rfl)⟩ d_R_common_32 (fun r7 σ6 hr7 h => ?_)
  exact rt _ _ _ _ _ _ (Nat.le_of_ble_eq_true rfl) (Nat.le_of_ble_eq_true rfl) d_R_common_35 hr7 h
def q_R_image (K : zS → Prop) (σ : zS) : Prop :=
  q_L_copyTo_40 0 (fun σ1 =>
    ∀ σ2 : zS, σ2 = zU σ1 0 10 1 → K σ2) σ
abbrev rm_R_image : Room := { frames := 2, cells := 0, slots := 0, locals := 82 }
set_option maxRecDepth 20000 in
set_option maxHeartbeats 4000000 in
theorem s_R_image {Ω : zO} {ad : Nat → Nat} {K : zS → Prop} {σ : zS}  (h : q_R_image K σ) : zMv Ω y_R_image (.code y_R_image c_R_image 1 none) rm_R_image zLy ad [.ref (ad 0)] σ K := by
  refine z_ofv (lv := [(0, .ref (ad 0))]) (by decide) rfl (Nat.le_of_ble_eq_true rfl) ?_
  intro Γ Q cx rt
  unfold q_R_image at h
  refine v_aload_n cx 0 d_R_image_0 rfl rfl ?_
  refine gf_R_19 cx d_R_image_1 ?_
  refine v_aload_n cx 0 d_R_image_4 rfl rfl ?_
  refine gf_R_82 cx d_R_image_5 ?_
  refine v_iconst cx d_R_image_8 ?_
  refine v_callVv0 (st := []) cx (s_L_copyTo_40 ⟨by decide, by decide⟩ h) yk_L_copyTo lk_R_310 zl_3 rfl rfl rfl (Nat.le_of_ble_eq_true rfl) ⟨Nat.le_of_ble_eq_true rfl, Nat.le_of_ble_eq_true rfl⟩ ⟨rfl, rfl⟩ ⟨(Nat.le_of_ble_eq_true rfl), (Nat.le_of_ble_eq_true rfl)⟩ d_R_image_9 (fun σ1 h => ?_)
  refine v_aload_n cx 0 d_R_image_12 rfl rfl ?_
  refine v_iconst cx d_R_image_13 ?_
  refine pf_R_86 cx (Or.inr rfl) d_R_image_14 ?_
  refine v_ns (fun σ2 eσ2 => ?_)
  replace h := h σ2 eσ2
  exact rt _ _ _ _ _ (Nat.le_of_ble_eq_true rfl) (Nat.le_of_ble_eq_true rfl) d_R_image_17 h
def q_R_back (K : Int → zS → Prop) (σ : zS) : Prop :=
  ((σ 0 10) ≠ 0 →
    q_L_take_40 0 (fun σ3 =>
      q_P_forget (fun σ4 =>
        K 1 σ4) σ3) σ) ∧ ((σ 0 10) = 0 →
    K 0 σ)
abbrev rm_R_back : Room := { frames := 4, cells := 0, slots := 0, locals := 90 }
set_option maxRecDepth 20000 in
set_option maxHeartbeats 4000000 in
theorem s_R_back {Ω : zO} {ad : Nat → Nat} {K : Int → zS → Prop} {σ : zS}  (h : q_R_back K σ) : zMz Ω y_R_back (.code y_R_back c_R_back 1 (some .boolean)) rm_R_back zLy ad [.ref (ad 0)] σ K := by
  refine z_ofz (lv := [(0, .ref (ad 0))]) (by decide) rfl (Nat.le_of_ble_eq_true rfl) ?_
  intro Γ Q cx rt
  unfold q_R_back at h
  refine v_aload_n cx 0 d_R_back_0 rfl rfl ?_
  refine gf_R_86 cx d_R_back_1 (fun hl1 => ?_)
  refine v_if_ne cx 9 d_R_back_4 (by decide) hl1 (fun c2 => ?_) (fun c2 => ?_)
  · replace h := h.1 c2
    refine v_aload_n cx 0 d_R_back_9 rfl rfl ?_
    refine gf_R_19 cx d_R_back_10 ?_
    refine v_aload_n cx 0 d_R_back_13 rfl rfl ?_
    refine gf_R_82 cx d_R_back_14 ?_
    refine v_iconst cx d_R_back_17 ?_
    refine v_callVv0 (st := []) cx (s_L_take_40 ⟨by decide, by decide⟩ h) yk_L_take lk_R_124 zl_3 rfl rfl rfl (Nat.le_of_ble_eq_true rfl) ⟨Nat.le_of_ble_eq_true rfl, Nat.le_of_ble_eq_true rfl⟩ ⟨rfl, rfl⟩ ⟨(Nat.le_of_ble_eq_true rfl), (Nat.le_of_ble_eq_true rfl)⟩ d_R_back_18 (fun σ3 h => ?_)
    refine v_aload_n cx 0 d_R_back_21 rfl rfl ?_
    refine gf_R_35 cx d_R_back_22 ?_
    refine v_callVv0 (st := []) cx (s_P_forget  h) yk_P_forget lk_R_128 zl_9 rfl rfl rfl (Nat.le_of_ble_eq_true rfl) ⟨Nat.le_of_ble_eq_true rfl, Nat.le_of_ble_eq_true rfl⟩ ⟨rfl, rfl⟩ ⟨(Nat.le_of_ble_eq_true rfl), (Nat.le_of_ble_eq_true rfl)⟩ d_R_back_25 (fun σ4 h => ?_)
    refine v_iconst cx d_R_back_28 ?_
    exact rt _ _ _ _ _ _ (Nat.le_of_ble_eq_true rfl) (Nat.le_of_ble_eq_true rfl) d_R_back_29 (Or.inr rfl) h
  · replace h := h.2 c2
    refine v_iconst cx d_R_back_7 ?_
    exact rt _ _ _ _ _ _ (Nat.le_of_ble_eq_true rfl) (Nat.le_of_ble_eq_true rfl) d_R_back_8 (Or.inl rfl) h
theorem zto_R_count_1 {a : Int} (h0 : a ≠ 0) (h1 : a ≠ 1) (h2 : a ≠ 2) (h3 : a ≠ 3) (h4 : a ≠ 4) (h5 : a ≠ 5) : a < 0 ∨ 5 < a := by omega
def q_R_count (what : Int) (K : Int → zS → Prop) (σ : zS) : Prop :=
  (what = 0 →
    q_L_wide (fun r3 σ2 =>
      K r3 σ2) σ) ∧ (what = 1 →
    q_L_deep (fun r6 σ5 =>
      K r6 σ5) σ) ∧ (what = 2 →
    q_L_wetPlaces (fun r9 σ8 =>
      K r9 σ8) σ) ∧ (what = 3 →
    q_L_builtBits (fun r12 σ11 =>
      K r12 σ11) σ) ∧ (what = 4 →
    q_P_size (fun r15 σ14 =>
      K r15 σ14) σ) ∧ (what = 5 →
    q_S_sinks (fun r18 σ17 =>
      K r18 σ17) σ) ∧ (what ≠ 0 ∧ what ≠ 1 ∧ what ≠ 2 ∧ what ≠ 3 ∧ what ≠ 4 ∧ what ≠ 5 →
    K (-1) σ)
abbrev rm_R_count : Room := { frames := 3, cells := 0, slots := 0, locals := 69 }
set_option maxRecDepth 20000 in
set_option maxHeartbeats 4000000 in
theorem s_R_count {Ω : zO} {ad : Nat → Nat} {what : Int} {K : Int → zS → Prop} {σ : zS} (hwhat : zR what) (h : q_R_count what K σ) : zMi Ω y_R_count (.code y_R_count c_R_count 2 (some .int)) rm_R_count zLy ad [.ref (ad 0), .int (zI what)] σ K := by
  refine z_ofi (lv := [(0, .ref (ad 0)), (1, .int (zI what))]) (by decide) rfl (Nat.le_of_ble_eq_true rfl) ?_
  intro Γ Q cx rt
  unfold q_R_count at h
  refine v_iload_n cx 1 d_R_count_0 rfl rfl ?_
  by_cases c1 : what = 0
  · replace h := h.1 c1
    refine v_tableIn cx 40 d_R_count_1 hwhat (by rw [c1]; decide) (by rw [c1]; decide) (by rw [c1]; rfl) (by decide) ?_
    refine v_aload_n cx 0 d_R_count_40 rfl rfl ?_
    refine gf_R_19 cx d_R_count_41 ?_
    refine v_callVi0 (st := []) cx (s_L_wide  h) yk_L_wide lk_R_313 zl_3 rfl rfl rfl (Nat.le_of_ble_eq_true rfl) ⟨Nat.le_of_ble_eq_true rfl, Nat.le_of_ble_eq_true rfl⟩ ⟨rfl, rfl⟩ ⟨(Nat.le_of_ble_eq_true rfl), (Nat.le_of_ble_eq_true rfl)⟩ d_R_count_44 (fun r3 σ2 hr3 h => ?_)
    exact rt _ _ _ _ _ _ (Nat.le_of_ble_eq_true rfl) (Nat.le_of_ble_eq_true rfl) d_R_count_47 hr3 h
  replace h := h.2
  by_cases c4 : what = 1
  · replace h := h.1 c4
    refine v_tableIn cx 48 d_R_count_1 hwhat (by rw [c4]; decide) (by rw [c4]; decide) (by rw [c4]; rfl) (by decide) ?_
    refine v_aload_n cx 0 d_R_count_48 rfl rfl ?_
    refine gf_R_19 cx d_R_count_49 ?_
    refine v_callVi0 (st := []) cx (s_L_deep  h) yk_L_deep lk_R_316 zl_3 rfl rfl rfl (Nat.le_of_ble_eq_true rfl) ⟨Nat.le_of_ble_eq_true rfl, Nat.le_of_ble_eq_true rfl⟩ ⟨rfl, rfl⟩ ⟨(Nat.le_of_ble_eq_true rfl), (Nat.le_of_ble_eq_true rfl)⟩ d_R_count_52 (fun r6 σ5 hr6 h => ?_)
    exact rt _ _ _ _ _ _ (Nat.le_of_ble_eq_true rfl) (Nat.le_of_ble_eq_true rfl) d_R_count_55 hr6 h
  replace h := h.2
  by_cases c7 : what = 2
  · replace h := h.1 c7
    refine v_tableIn cx 56 d_R_count_1 hwhat (by rw [c7]; decide) (by rw [c7]; decide) (by rw [c7]; rfl) (by decide) ?_
    refine v_aload_n cx 0 d_R_count_56 rfl rfl ?_
    refine gf_R_19 cx d_R_count_57 ?_
    refine v_callVi0 (st := []) cx (s_L_wetPlaces  h) yk_L_wetPlaces lk_R_319 zl_3 rfl rfl rfl (Nat.le_of_ble_eq_true rfl) ⟨Nat.le_of_ble_eq_true rfl, Nat.le_of_ble_eq_true rfl⟩ ⟨rfl, rfl⟩ ⟨(Nat.le_of_ble_eq_true rfl), (Nat.le_of_ble_eq_true rfl)⟩ d_R_count_60 (fun r9 σ8 hr9 h => ?_)
    exact rt _ _ _ _ _ _ (Nat.le_of_ble_eq_true rfl) (Nat.le_of_ble_eq_true rfl) d_R_count_63 hr9 h
  replace h := h.2
  by_cases c10 : what = 3
  · replace h := h.1 c10
    refine v_tableIn cx 64 d_R_count_1 hwhat (by rw [c10]; decide) (by rw [c10]; decide) (by rw [c10]; rfl) (by decide) ?_
    refine v_aload_n cx 0 d_R_count_64 rfl rfl ?_
    refine gf_R_19 cx d_R_count_65 ?_
    refine v_callVi0 (st := []) cx (s_L_builtBits  h) yk_L_builtBits lk_R_322 zl_3 rfl rfl rfl (Nat.le_of_ble_eq_true rfl) ⟨Nat.le_of_ble_eq_true rfl, Nat.le_of_ble_eq_true rfl⟩ ⟨rfl, rfl⟩ ⟨(Nat.le_of_ble_eq_true rfl), (Nat.le_of_ble_eq_true rfl)⟩ d_R_count_68 (fun r12 σ11 hr12 h => ?_)
    exact rt _ _ _ _ _ _ (Nat.le_of_ble_eq_true rfl) (Nat.le_of_ble_eq_true rfl) d_R_count_71 hr12 h
  replace h := h.2
  by_cases c13 : what = 4
  · replace h := h.1 c13
    refine v_tableIn cx 72 d_R_count_1 hwhat (by rw [c13]; decide) (by rw [c13]; decide) (by rw [c13]; rfl) (by decide) ?_
    refine v_aload_n cx 0 d_R_count_72 rfl rfl ?_
    refine gf_R_35 cx d_R_count_73 ?_
    refine v_callVi0 (st := []) cx (s_P_size  h) yk_P_size lk_R_226 zl_9 rfl rfl rfl (Nat.le_of_ble_eq_true rfl) ⟨Nat.le_of_ble_eq_true rfl, Nat.le_of_ble_eq_true rfl⟩ ⟨rfl, rfl⟩ ⟨(Nat.le_of_ble_eq_true rfl), (Nat.le_of_ble_eq_true rfl)⟩ d_R_count_76 (fun r15 σ14 hr15 h => ?_)
    exact rt _ _ _ _ _ _ (Nat.le_of_ble_eq_true rfl) (Nat.le_of_ble_eq_true rfl) d_R_count_79 hr15 h
  replace h := h.2
  by_cases c16 : what = 5
  · replace h := h.1 c16
    refine v_tableIn cx 80 d_R_count_1 hwhat (by rw [c16]; decide) (by rw [c16]; decide) (by rw [c16]; rfl) (by decide) ?_
    refine v_aload_n cx 0 d_R_count_80 rfl rfl ?_
    refine gf_R_44 cx d_R_count_81 ?_
    refine v_callVi0 (st := []) cx (s_S_sinks  h) yk_S_sinks lk_R_325 zl_11 rfl rfl rfl (Nat.le_of_ble_eq_true rfl) ⟨Nat.le_of_ble_eq_true rfl, Nat.le_of_ble_eq_true rfl⟩ ⟨rfl, rfl⟩ ⟨(Nat.le_of_ble_eq_true rfl), (Nat.le_of_ble_eq_true rfl)⟩ d_R_count_84 (fun r18 σ17 hr18 h => ?_)
    exact rt _ _ _ _ _ _ (Nat.le_of_ble_eq_true rfl) (Nat.le_of_ble_eq_true rfl) d_R_count_87 hr18 h
  replace h := h.2
  replace h := h ⟨c1, c4, c7, c10, c13, c16⟩
  refine v_tableOut cx 88 d_R_count_1 hwhat (zto_R_count_1 c1 c4 c7 c10 c13 c16) (by decide) ?_
  refine v_iconst cx d_R_count_88 ?_
  exact rt _ _ _ _ _ _ (Nat.le_of_ble_eq_true rfl) (Nat.le_of_ble_eq_true rfl) d_R_count_89 ⟨by decide, by decide⟩ h
