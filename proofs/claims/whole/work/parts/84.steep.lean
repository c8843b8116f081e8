/-! ===== the steepest step of a road ===== -/
def dfF (L : Int → Int) (r k : Int) : Int := if lvF L r k < lvF L r (k + 1) then lvF L r (k + 1) - lvF L r k else lvF L r k - lvF L r (k + 1)
def lnF (L : Int → Int) (r k : Int) : Int := lng (rhd L r k)
def wtF (L : Int → Int) (r k : Int) : Int := if lnF L r k = 10 then 7 * dfF L r k else 5 * dfF L r k
theorem wt_or (L : Int → Int) (r k : Int) : (lnF L r k = 10 ∧ wtF L r k = 7 * dfF L r k) ∨ (lnF L r k = 14 ∧ wtF L r k = 5 * dfF L r k) := by
  unfold wtF
  rcases lng_or (rhd L r k) with e | e
  · have e' : lnF L r k = 10 := e
    rw [if_pos e']
    exact Or.inl ⟨e', rfl⟩
  · have e' : lnF L r k = 14 := e
    rw [if_neg (by omega)]
    exact Or.inr ⟨e', rfl⟩
theorem wt_cmp (L : Int → Int) (r i j : Int) : dfF L r j * lnF L r i ≤ dfF L r i * lnF L r j ↔ wtF L r j ≤ wtF L r i := by
  rcases wt_or L r i with ⟨a, b⟩ | ⟨a, b⟩ <;> rcases wt_or L r j with ⟨c, d⟩ | ⟨c, d⟩ <;> rw [a, b, c, d] <;> omega
def StpV (L : Int → Int) (r n v : Int) : Prop := 0 ≤ v ∧ v < n ∧ (∀ i, 0 ≤ i → i < n → wtF L r i ≤ wtF L r v) ∧ ∀ i, 0 ≤ i → i < v → wtF L r i < wtF L r v
theorem StpV_uniq {L : Int → Int} {r n v w : Int} (h1 : StpV L r n v) (h2 : StpV L r n w) : v = w := by
  obtain ⟨a, b, c, d⟩ := h1
  obtain ⟨a', b', c', d'⟩ := h2
  by_cases x : v < w
  · have := d' v a x
    have := c w a' b'
    omega
  · by_cases y : w < v
    · have := d w a' y
      have := c' v a b
      omega
    · omega
theorem StpV_s {L : Int → Int} {r j v : Int} (h : StpV L r j v) : (wtF L r j ≤ wtF L r v → StpV L r (j + 1) v) ∧ (wtF L r v < wtF L r j → StpV L r (j + 1) j) := by
  obtain ⟨a, b, c, d⟩ := h
  refine ⟨fun z => ⟨a, by omega, fun i i0 i1 => ?_, d⟩, fun z => ⟨by omega, by omega, fun i i0 i1 => ?_, fun i i0 i1 => ?_⟩⟩
  · by_cases e : i = j
    · rw [e]; exact z
    · exact c i i0 (by omega)
  · by_cases e : i = j
    · rw [e]; exact Int.le_refl _
    · have := c i i0 (by omega)
      omega
  · have := c i i0 i1
    omega
section TY
variable {K : Int → zS → Prop} {σ : zS} {L : Int → Int} {A B r k : Int}
theorem df_b (hL : GW L) (hw : RW L r) (nz : L (175 + 81 * r) ≠ 0) (k0 : 0 ≤ k) (k1 : k + 1 < L (175 + 81 * r)) : 0 ≤ dfF L r k ∧ dfF L r k ≤ 105 := by
  have a := lv_b hL hw nz k0 (by omega)
  have b := lv_b hL hw nz (show 0 ≤ k + 1 by omega) k1
  unfold dfF
  split <;> omega
theorem t_M_levels (hm : MM L A B σ) (hL : GW L) (hr : 0 ≤ r ∧ r < 4) (hw : RW L r) (nz : L (175 + 81 * r) ≠ 0) (k0 : 0 ≤ k) (k1 : k + 1 < L (175 + 81 * r)) (h : K (dfF L r k) σ) : q_M_levels r k K σ := by
  have hRW := hw.resolve_left nz
  have b := df_b hL hw nz k0 k1
  unfold dfF at b h
  unfold q_M_levels
  exact t_M_levelAt hm hL hr hw nz k0 (by omega) ⟨zRi (by omega) (by omega), t_M_levelAt hm hL hr hw nz (by omega) k1 (t_M_apart (zRi (by omega) (by omega)) h)⟩
theorem t_M_steepest (hm : MM L A B σ) (hL : GW L) (hr : 0 ≤ r ∧ r < 4) (hw : RW L r) (nz : L (175 + 81 * r) ≠ 0) (h : ∀ v, StpV L r (L (175 + 81 * r) - 1) v → K v σ) : q_M_steepest r K σ := by
  have hRW := hw.resolve_left nz
  unfold q_M_steepest
  refine ⟨fun v j s => s = σ ∧ 1 ≤ j ∧ j ≤ L (175 + 81 * r) - 1 ∧ StpV L r j v, fun _ j _ => (40 - j).toNat, ⟨rfl, by decide, by omega, by decide, by decide, fun i i0 i1 => ?_, fun i i0 i1 => by omega⟩, ?_⟩
  · rw [show i = 0 by omega]
    exact Int.le_refl _
  rintro v j s ⟨rfl, j0, j1, hI⟩ - -
  refine t_M_many hm hr ⟨zRi (by omega) (by omega), fun e => h v (by rw [show L (175 + 81 * r) - 1 = j by omega]; exact hI), fun e => ?_⟩
  have v0 := hI.1
  have v1 := hI.2.1
  have hdj := hw.hd (show 0 ≤ j by omega) (show j + 1 < L (175 + 81 * r) by omega)
  have hdv := hw.hd v0 (show v + 1 < L (175 + 81 * r) by omega)
  have bj := df_b hL hw nz (show 0 ≤ j by omega) (show j + 1 < L (175 + 81 * r) by omega)
  have bv := df_b hL hw nz v0 (show v + 1 < L (175 + 81 * r) by omega)
  refine t_M_levels hm hL hr hw nz (by omega) (by omega) (t_M_stepHeading hm hL hr hw v0 (by omega) (by omega) (t_M_longOf hdv.1 (t_M_levels hm hL hr hw nz v0 (by omega) (t_M_stepHeading hm hL hr hw (by omega) (by omega) (by omega) (t_M_longOf hdj.1 ?_)))))
  have ei : lng (rhd L r v) = lnF L r v := rfl
  have ej : lng (rhd L r j) = lnF L r j := rfl
  rw [ei, ej]
  have cm := wt_cmp L r v j
  have z1 : 0 ≤ dfF L r j * lnF L r v ∧ dfF L r j * lnF L r v ≤ 1470 := by
    rcases wt_or L r v with ⟨a, -⟩ | ⟨a, -⟩ <;> rw [a] <;> omega
  have z2 : 0 ≤ dfF L r v * lnF L r j ∧ dfF L r v * lnF L r j ≤ 1470 := by
    rcases wt_or L r j with ⟨a, -⟩ | ⟨a, -⟩ <;> rw [a] <;> omega
  refine ⟨zRi (by omega) (by omega), zRi (by omega) (by omega), fun c => ⟨⟨rfl, by omega, by omega, (StpV_s hI).1 (cm.mp c)⟩, zRi (by omega) (by omega), by dsimp only; omega⟩, fun c => ⟨⟨rfl, by omega, by omega, (StpV_s hI).2 ?_⟩, zRi (by omega) (by omega), by dsimp only; omega⟩⟩
  by_cases q : wtF L r j ≤ wtF L r v
  · have := cm.mpr q
    omega
  · omega
theorem t_U_steepest (hc : CC L σ) (hL : GW L) (hr : 0 ≤ r ∧ r < 4) (hw : RW L r) (nz : L (175 + 81 * r) ≠ 0) (h : ∀ v, StpV L r (L (175 + 81 * r) - 1) v → K v σ) : q_U_steepest r K σ := by
  have hRW := hw.resolve_left nz
  unfold q_U_steepest q_U_steps
  refine ⟨fun v d l j s => s = σ ∧ 0 ≤ j ∧ j ≤ L (175 + 81 * r) - 1 ∧ ((v = 0 ∧ d = 0 ∧ l = 1 ∧ ∀ i, 0 ≤ i → i < j → wtF L r i = 0) ∨ (d = dfF L r v ∧ l = lnF L r v ∧ StpV L r j v)), fun _ _ _ j _ => (40 - j).toNat, ⟨rfl, by decide, by omega, Or.inl ⟨rfl, rfl, rfl, fun i i0 i1 => by omega⟩⟩, ?_⟩
  rintro v d l j s ⟨rfl, j0, j1, hI⟩ - - - -
  refine t_L_roadSize hc hr ⟨zRi (by omega) (by omega), fun e => h v ?_, fun e => ?_⟩
  · rw [show L (175 + 81 * r) - 1 = j by omega]
    rcases hI with ⟨z1, -, -, z4⟩ | z
    · rw [z1]
      refine ⟨by decide, by omega, fun i i0 i1 => ?_, fun i i0 i1 => by omega⟩
      rw [z4 i i0 i1, z4 0 (by decide) (by omega)]
      decide
    · exact z.2.2
  have bj := df_b hL hw nz j0 (show j + 1 < L (175 + 81 * r) by omega)
  have lj := lv_b hL hw nz j0 (by omega)
  have lj' := lv_b hL hw nz (show 0 ≤ j + 1 by omega) (by omega)
  refine ⟨zRi (by omega) (by omega), t_U_levelAt hc hL hr hw nz (by omega) (by omega) (t_U_levelAt hc hL hr hw nz j0 (by omega) ⟨zRi (by omega) (by omega), fun x ex => t_L_roadHeading hc hL hr hw j0 (by omega) (by omega) (t_R_longOf ?_)⟩)⟩
  have ed : x = dfF L r j := by
    unfold dfF
    split <;> omega
  have ej : lng (rhd L r j) = lnF L r j := rfl
  rw [ej, ed]
  rcases hI with ⟨rfl, rfl, rfl, z4⟩ | ⟨rfl, rfl, hI⟩
  · have wj := wt_or L r j
    refine ⟨zRi (by omega) (by omega), zRi (by omega) (by omega), fun c => ⟨⟨rfl, by omega, by omega, Or.inl ⟨rfl, rfl, rfl, fun i i0 i1 => ?_⟩⟩, by dsimp only; omega⟩, fun c => ⟨⟨rfl, by omega, by omega, Or.inr ⟨rfl, rfl, j0, by omega, fun i i0 i1 => ?_, fun i i0 i1 => ?_⟩⟩, zRi (by omega) (by omega), by dsimp only; omega⟩⟩
    · by_cases q : i = j
      · rw [q]; omega
      · exact z4 i i0 (by omega)
    · by_cases q : i = j
      · rw [q]; exact Int.le_refl _
      · rw [z4 i i0 (by omega)]; omega
    · rw [z4 i i0 i1]; omega
  · have v0 := hI.1
    have v1 := hI.2.1
    have bv := df_b hL hw nz v0 (show v + 1 < L (175 + 81 * r) by omega)
    have cm := wt_cmp L r v j
    have z1 : 0 ≤ dfF L r j * lnF L r v ∧ dfF L r j * lnF L r v ≤ 1470 := by
      rcases wt_or L r v with ⟨a, -⟩ | ⟨a, -⟩ <;> rw [a] <;> omega
    have z2 : 0 ≤ dfF L r v * lnF L r j ∧ dfF L r v * lnF L r j ≤ 1470 := by
      rcases wt_or L r j with ⟨a, -⟩ | ⟨a, -⟩ <;> rw [a] <;> omega
    refine ⟨zRi (by omega) (by omega), zRi (by omega) (by omega), fun c => ⟨⟨rfl, by omega, by omega, Or.inr ⟨rfl, rfl, (StpV_s hI).1 (cm.mp c)⟩⟩, by dsimp only; omega⟩, fun c => ⟨⟨rfl, by omega, by omega, Or.inr ⟨rfl, rfl, (StpV_s hI).2 ?_⟩⟩, zRi (by omega) (by omega), by dsimp only; omega⟩⟩
    by_cases q : wtF L r j ≤ wtF L r v
    · have := cm.mpr q
      omega
    · omega
end TY
