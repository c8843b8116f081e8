/-! ===== what is said of a road: sums ===== -/
noncomputable def mt (L : Int → Int) (r kind k : Int) : Int := kst L (fun _ => 0) kind (L (176 + 81 * r + k)) (rhd L r k) + (if k = 0 then 0 else kbn L kind (rhd L r (k - 1)) (rhd L r k))
theorem CB_z {L : Int → Int} : CB L (fun _ => 0) := fun _ _ => ⟨show (0 : Int) ≤ 0 by decide, show (0 : Int) ≤ 81 by decide⟩
theorem mt_b {L : Int → Int} {r kind k : Int} (hL : GW L) (hw : RW L r) (k0 : 0 ≤ k) (k1 : k + 1 < L (175 + 81 * r)) : 0 ≤ mt L r kind k ∧ mt L r kind k ≤ 1085 := by
  have hd := hw.hd k0 k1
  have a := kst_b (C := fun _ => 0) (kind := kind) (g := rhd L r k) hL CB_z hd.2.2.1 (by rw [hd.2.1]; exact hd.2.2.2.ne)
  unfold mt
  by_cases e : k = 0
  · rw [if_pos e]
    omega
  · rw [if_neg e]
    have hd' := hw.hd (show 0 ≤ k - 1 by omega) (by omega)
    have b := kbn_b (kind := kind) hL hd'.1.1 hd'.1.2 hd.1.1 hd.1.2
    omega
theorem MM_41 {L : Int → Int} {A B : Int} {σ s : zS} (hm : MM L A B σ) (hq : zQ [41, 54] σ s) (h41 : ∀ k, k ≠ 20 → s 41 k = σ 41 k) : MM L A B s := by
  unfold MM
  rw [hq 42 (by decide), hq 47 (by decide), hq 48 (by decide), h41 28 (by decide), h41 29 (by decide)]
  exact hm
theorem t_M_laysPath {K : zS → Prop} {σ : zS} {L : Int → Int} {A B r : Int} (hm : MM L A B σ) (hr : 0 ≤ r ∧ r < 4) (hw : RW L r) (nz : L (175 + 81 * r) ≠ 0) (h : ∀ τ, zQ [41, 54] σ τ → (∀ k, k ≠ 20 → τ 41 k = σ 41 k) → τ 41 20 = L (175 + 81 * r) → (∀ k, 0 ≤ k → k < L (175 + 81 * r) → τ 54 k = L (176 + 81 * r + k)) → K τ) : q_M_laysPath r K σ := by
  have hRW := hw.resolve_left nz
  unfold q_M_laysPath
  refine t_M_many hm hr (fun s3 e3 => ?_)
  refine ⟨fun y s => zQ [41, 54] σ s ∧ (∀ k, k ≠ 20 → s 41 k = σ 41 k) ∧ s 41 20 = L (175 + 81 * r) ∧ 0 ≤ y ∧ y ≤ L (175 + 81 * r) ∧ ∀ k, 0 ≤ k → k < y → s 54 k = L (176 + 81 * r + k), fun y _ => (40 - y).toNat, ⟨by rw [e3]; exact zQ_U (by decide), fun k hk => by rw [e3, zU_k hk], by rw [e3, zU_s], by decide, by omega, fun k a b => by omega⟩, ?_⟩
  rintro y s ⟨hq, h41, h20, y0, y1, hI⟩ -
  have hms := MM_41 hm hq h41
  rw [h20]
  refine ⟨fun e => h s hq h41 h20 (fun k k0 k1 => hI k k0 (by omega)), fun e => t_M_placeAt hms hr ⟨y0, by omega⟩ ⟨by omega, fun s11 e11 => ⟨⟨by rw [e11]; exact zQ_t hq (zQ_U (by decide)), fun k hk => by rw [e11, zU_row (by decide)]; exact h41 k hk, by rw [e11, zU_row (by decide)]; exact h20, by omega, by omega, fun k k0 k1 => ?_⟩, zRi (by omega) (by omega), by dsimp only; omega⟩⟩⟩
  rw [e11, zU_if]
  by_cases ek : k = y
  · rw [if_pos ek, ek]
  · rw [if_neg ek]
    exact hI k k0 (by omega)
theorem t_M_measureR {K : Int → zS → Prop} {σ : zS} {L : Int → Int} {A B r kind : Int} (hm : MM L A B σ) (hL : GW L) (hR : RB L) (hw : RW L r) (nz : L (175 + 81 * r) ≠ 0) (h20 : σ 41 20 = L (175 + 81 * r)) (h54 : ∀ k, 0 ≤ k → k < L (175 + 81 * r) → σ 54 k = L (176 + 81 * r + k)) (hk : 0 ≤ kind ∧ kind ≤ 2) (h : K (sI (mt L r kind) (L (175 + 81 * r) - 1)) σ) : q_M_measure kind K σ := by
  have hRW := hw.resolve_left nz
  have hh : ∀ k, 0 ≤ k → k + 1 < L (175 + 81 * r) → hg L (σ 54) k = rhd L r k := fun k k0 k1 => by
    unfold hg rhd
    rw [h54 k k0 (by omega), h54 (k + 1) (by omega) k1]
  refine t_M_measure (C := fun _ => 0) hm hL hR CB_z (fun e => by omega) (by omega) (by omega) (fun k k0 k1 => ?_) ?_
  · rw [h20] at k1
    have hd := hw.hd k0 k1
    rw [hh k k0 k1, h54 k k0 (by omega), h54 (k + 1) (by omega) k1]
    exact ⟨hd.2.2.1, hd.2.2.2, hd.1, hd.2.1⟩
  · rw [h20]
    have e : smI (mtm L (fun _ => 0) kind (σ 54)) (L (175 + 81 * r) - 1).toNat = sI (mt L r kind) (L (175 + 81 * r) - 1) := by
      unfold sI
      refine smI_congr _ (fun i hi => ?_)
      unfold mtm mt
      rw [hh i (by omega) (by omega), h54 i (by omega) (by omega)]
      by_cases c : (i : Int) = 0
      · rw [if_pos c, if_pos c]
      · rw [if_neg c, if_neg c, hh ((i : Int) - 1) (by omega) (by omega)]
    rw [e]
    exact h
section TU
variable {K : Int → zS → Prop} {σ : zS} {L : Int → Int} {A B r k : Int}
theorem mt_1 (L : Int → Int) (r k : Int) : mt L r 1 k = lng (rhd L r k) := by
  unfold mt kst kbn
  simp
theorem mt_2 (L : Int → Int) (r k : Int) : mt L r 2 k = clb L (L (176 + 81 * r + k)) (bs L (L (176 + 81 * r + k)) (rhd L r k)) := by
  unfold mt kst kbn
  simp
theorem mt_0 (L : Int → Int) (r k : Int) : mt L r 0 k = cst L (L (176 + 81 * r + k)) (rhd L r k) + (if k = 0 then 0 else bcs L (rhd L r (k - 1)) (rhd L r k)) := by
  unfold mt kst kbn
  simp
theorem t_U_bendAt (hc : CC L σ) (hL : GW L) (hr : 0 ≤ r ∧ r < 4) (hw : RW L r) (nz : L (175 + 81 * r) ≠ 0) (k0 : 1 ≤ k) (k1 : k + 1 < L (175 + 81 * r)) (h : K (eig (rhd L r (k - 1)) (rhd L r k)) σ) : q_U_bendAt r k K σ := by
  have hRW := hw.resolve_left nz
  have hd := hw.hd (show 0 ≤ k by omega) k1
  have hd' := hw.hd (show 0 ≤ k - 1 by omega) (by omega)
  unfold q_U_bendAt
  exact ⟨zRi (by omega) (by omega), t_L_roadHeading hc hL hr hw (by omega) (by omega) (by omega) (t_L_roadHeading hc hL hr hw (by omega) (by omega) (by omega) (t_R_eighths hd'.1 hd.1 h))⟩
/-- what is climbed, or gone down, at a step -/
def clS (L : Int → Int) (r sign k : Int) : Int := if sign = 1 then clb L (L (176 + 81 * r + k)) (L (176 + 81 * r + (k + 1))) else clb L (L (176 + 81 * r + (k + 1))) (L (176 + 81 * r + k))
theorem t_U_climbed {sign : Int} (hs : sign = 1 ∨ sign = -1) (hc : CC L σ) (hL : GW L) (hr : 0 ≤ r ∧ r < 4) (hw : RW L r) (nz : L (175 + 81 * r) ≠ 0) (h : K (sI (clS L r sign) (L (175 + 81 * r) - 1)) σ) : q_U_climbed r sign K σ := by
  have hRW := hw.resolve_left nz
  unfold q_U_climbed q_U_steps
  refine ⟨fun v j s => s = σ ∧ 0 ≤ j ∧ j ≤ L (175 + 81 * r) - 1 ∧ v = sI (clS L r sign) j ∧ 0 ≤ v ∧ v ≤ 99 * j, fun _ j _ => (40 - j).toNat, ⟨rfl, by decide, by omega, rfl, by decide, by decide⟩, ?_⟩
  rintro v j s ⟨rfl, j0, j1, ev, v0, v1⟩ - -
  refine t_L_roadSize hc hr ⟨zRi (by omega) (by omega), fun e => ?_, fun e => ?_⟩
  · rw [ev, show j = L (175 + 81 * r) - 1 by omega]
    exact h
  · have hd := hw.hd j0 (show j + 1 < L (175 + 81 * r) by omega)
    have ha := hL.2.2.1 _ hd.2.2.1.1 (hd.2.2.1.b hL).2
    have hb := hL.2.2.1 _ hd.2.2.2.1 (hd.2.2.2.b hL).2
    have es := sI_s (clS L r sign) j0
    refine ⟨zRi (by omega) (by omega), t_L_roadPlace hc hr ⟨by omega, by omega⟩ (t_L_height hc hL hd.2.2.2 (t_L_roadPlace hc hr ⟨j0, by omega⟩ (t_L_height hc hL hd.2.2.1 (fun x ex => ?_))))⟩
    have e1 : clS L r sign j = max 0 (sign * x) ∧ -99 ≤ sign * x ∧ sign * x ≤ 99 := by
      unfold clS clb
      rcases hs with e | e
      · rw [e, if_pos rfl]
        split <;> omega
      · rw [e, if_neg (by decide)]
        split <;> omega
    refine ⟨zRi (by omega) (by omega), fun x19 e19 => ⟨⟨rfl, by omega, by omega, by omega, by omega, by omega⟩, zRi (by omega) (by omega), by dsimp only; omega⟩⟩
theorem t_M_descent (hm : MM L A B σ) (hL : GW L) (hr : 0 ≤ r ∧ r < 4) (hw : RW L r) (nz : L (175 + 81 * r) ≠ 0) (h : K (sI (clS L r (-1)) (L (175 + 81 * r) - 1)) σ) : q_M_descent r K σ := by
  have hRW := hw.resolve_left nz
  unfold q_M_descent
  refine ⟨fun v j s => s = σ ∧ 0 ≤ j ∧ j ≤ L (175 + 81 * r) - 1 ∧ v = sI (clS L r (-1)) j ∧ 0 ≤ v ∧ v ≤ 99 * j, fun _ j _ => (40 - j).toNat, ⟨rfl, by decide, by omega, rfl, by decide, by decide⟩, ?_⟩
  rintro v j s ⟨rfl, j0, j1, ev, v0, v1⟩ - -
  refine t_M_many hm hr ⟨zRi (by omega) (by omega), fun e => ?_, fun e => ?_⟩
  · rw [ev, show j = L (175 + 81 * r) - 1 by omega]
    exact h
  · have hd := hw.hd j0 (show j + 1 < L (175 + 81 * r) by omega)
    have es := sI_s (clS L r (-1)) j0
    have hcb := clb_b hL hd.2.2.2 hd.2.2.1
    have e1 : clS L r (-1) j = clb L (L (176 + 81 * r + (j + 1))) (L (176 + 81 * r + j)) := rfl
    exact ⟨zRi (by omega) (by omega), t_M_placeAt hm hr ⟨by omega, by omega⟩ (t_M_placeAt hm hr ⟨j0, by omega⟩ (t_M_climb hm hL hd.2.2.2 hd.2.2.1 (fun x15 e15 => ⟨⟨rfl, by omega, by omega, by omega, by omega, by omega⟩, zRi (by omega) (by omega), by dsimp only; omega⟩)))⟩
theorem t_U_costTogether (hc : CC L σ) (hL : GW L) (hr : 0 ≤ r ∧ r < 4) (hw : RW L r) (nz : L (175 + 81 * r) ≠ 0) (h : K (sI (mt L r 0) (L (175 + 81 * r) - 1)) σ) : q_U_costTogether r K σ := by
  have hRW := hw.resolve_left nz
  unfold q_U_costTogether q_U_steps
  refine ⟨fun v j s => s = σ ∧ 0 ≤ j ∧ j ≤ L (175 + 81 * r) - 1 ∧ v = sI (mt L r 0) j ∧ 0 ≤ v ∧ v ≤ 1085 * j, fun _ j _ => (40 - j).toNat, ⟨rfl, by decide, by omega, rfl, by decide, by decide⟩, ?_⟩
  rintro v j s ⟨rfl, j0, j1, ev, v0, v1⟩ - -
  refine t_L_roadSize hc hr ⟨zRi (by omega) (by omega), fun e => ?_, fun e => ?_⟩
  · rw [ev, show j = L (175 + 81 * r) - 1 by omega]
    exact h
  · have hd := hw.hd j0 (show j + 1 < L (175 + 81 * r) by omega)
    have nb : bs L (L (176 + 81 * r + j)) (rhd L r j) ≠ -1 := by rw [hd.2.1]; exact hd.2.2.2.ne
    have es := sI_s (mt L r 0) j0
    have hb := mt_b (kind := 0) hL hw j0 (show j + 1 < L (175 + 81 * r) by omega)
    have e0 := mt_0 L r j
    refine t_L_roadPlace hc hr ⟨j0, by omega⟩ (t_L_roadHeading hc hL hr hw j0 (by omega) (by omega) (t_L_stepCost hc hL hd.2.2.1 hd.1 nb (fun x13 e13 => ⟨fun ne => ?_, fun ee x23 e23 => ?_⟩)))
    · have hd' := hw.hd (show 0 ≤ j - 1 by omega) (by omega)
      refine t_U_bendAt hc hL hr hw nz (by omega) (by omega) (t_L_bendCost hc hL (eig_b hd'.1.1 hd'.1.2 hd.1.1 hd.1.2) (fun x19 e19 => ?_))
      have e19' : x19 = x13 + bcs L (rhd L r (j - 1)) (rhd L r j) := e19
      rw [if_neg ne] at e0
      exact ⟨⟨rfl, by omega, by omega, by omega, by omega, by omega⟩, zRi (by omega) (by omega), zRi (by omega) (by omega), by dsimp only; omega⟩
    · rw [if_pos ee] at e0
      exact ⟨⟨rfl, by omega, by omega, by omega, by omega, by omega⟩, zRi (by omega) (by omega), zRi (by omega) (by omega), by dsimp only; omega⟩
end TU
