/-! ===== besides laid out; undo, image, back; raise, flood, drop ===== -/
theorem t_L_layOutPlace {K : zS → Prop} {σ : zS} {L : Int → Int} {row col p : Int} (h4 : σ 4 = L) (hL : 2 ≤ L 0 ∧ L 0 ≤ 9 ∧ 2 ≤ L 1 ∧ L 1 ≤ 9) (hr : 0 ≤ row ∧ row < L 1) (hcl : 0 ≤ col ∧ col < L 0) (hp : p = row * L 0 + col) (h : ∀ τ, zQ [5] σ τ → (∀ g, 0 ≤ g → g < 8 → σ 5 (p * 8 + g) = -1 → τ 5 (p * 8 + g) = bs L p g) → (∀ i, ¬ (p * 8 ≤ i ∧ i < p * 8 + 8) → τ 5 i = σ 5 i) → K τ) : q_L_layOutPlace row col K σ := by
  have hin := gr_in hr.1 hr.2 hcl.1 hcl.2
  have hn := mul_bd hL.1 hL.2.1 hL.2.2.1 hL.2.2.2
  have hdm := gr_dm (W := L 0) (r := row) hcl.1 hcl.2
  rw [← hp] at hin hdm
  unfold q_L_layOutPlace q_L_wide q_L_deep
  rw [h4]
  intro x3 e3
  rw [← hp] at e3
  refine ⟨fun y s => zQ [5] σ s ∧ 0 ≤ y ∧ y ≤ 8 ∧ (∀ g, 0 ≤ g → g < 8 → σ 5 (p * 8 + g) = -1 → s 5 (p * 8 + g) = if g < y then bs L p g else -1) ∧ (∀ i, ¬ (p * 8 ≤ i ∧ i < p * 8 + 8) → s 5 i = σ 5 i), fun y _ => (8 - y).toNat, ⟨zQ_r _ _, by decide, by decide, fun g g0 g1 e => by rw [if_neg (by omega)]; exact e, fun i _ => rfl⟩, ?_⟩
  rintro y s ⟨hq, y0, y8, hI1, hI2⟩ -
  have s4 : s 4 = L := by rw [hq 4 (by decide)]; exact h4
  have hb := dRC_b y
  have skip : y < 8 → bs L p y = -1 → (zQ [5] σ s ∧ 0 ≤ y + 1 ∧ y + 1 ≤ 8 ∧ (∀ g, 0 ≤ g → g < 8 → σ 5 (p * 8 + g) = -1 → s 5 (p * 8 + g) = if g < y + 1 then bs L p g else -1) ∧ (∀ i, ¬ (p * 8 ≤ i ∧ i < p * 8 + 8) → s 5 i = σ 5 i)) ∧ zR (y + 1) ∧ (8 - (y + 1)).toNat < (8 - y).toNat := fun c e => by
    refine ⟨⟨hq, by omega, by omega, fun g g0 g1 eg => ?_, hI2⟩, zRi (by omega) (by omega), by omega⟩
    rw [hI1 g g0 g1 eg]
    by_cases q : g = y
    · rw [q, if_neg (by omega), if_pos (by omega), e]
    · by_cases q2 : g < y
      · rw [if_pos q2, if_pos (by omega)]
      · rw [if_neg q2, if_neg (by omega)]
  refine ⟨fun c => h s hq (fun g g0 g1 e => ?_) hI2, fun c => ⟨⟨y0, c⟩, fun x9 e9 x11 e11 => ?_⟩⟩
  · rw [hI1 g g0 g1 e, if_pos (by omega)]
  · rw [zSV_3 y0 c] at e9
    rw [zSV_4 y0 c] at e11
    rw [s4]
    have nb : ¬ (0 ≤ x9 ∧ x9 < L 1 ∧ 0 ≤ x11 ∧ x11 < L 0) → bs L p y = -1 := fun q => by
      show bes (L 0) (L 1) p y = -1
      unfold bes
      rw [hdm.1, hdm.2, ← e9, ← e11]
      exact if_neg q
    refine ⟨zRi (by omega) (by omega), fun d => skip c (nb (by omega)), fun d => ⟨fun d2 => skip c (nb (by omega)), fun d2 => ⟨zRi (by omega) (by omega), fun d3 => skip c (nb (by omega)), fun d3 => ?_⟩⟩⟩
    rw [s4]
    refine ⟨fun d4 => skip c (nb (by omega)), fun d4 => ?_⟩
    rw [s4]
    have hv := gr_in (W := L 0) (D := L 1) d d2 d3 d4
    refine ⟨by omega, zRi (by omega) (by omega), fun s34 e34 => ⟨⟨?_, by omega, by omega, fun g g0 g1 eg => ?_, fun i hi => ?_⟩, zRi (by omega) (by omega), by dsimp only; omega⟩⟩
    · rw [e34]; exact zQ_t hq (zQ_U (by decide))
    · rw [e34, zU_if, e3]
      by_cases q : g = y
      · rw [if_pos (by omega), if_pos (by omega), q]
        show _ = bes (L 0) (L 1) p y
        rw [bes_mk (r := x9) (c := x11) (by rw [hdm.1, e9]) (by rw [hdm.2, e11]) d d2 d3 d4]
      · rw [if_neg (by omega), hI1 g g0 g1 eg]
        by_cases q2 : g < y
        · rw [if_pos q2, if_pos (by omega)]
        · rw [if_neg q2, if_neg (by omega)]
    · rw [e34, zU_if, if_neg (by omega)]
      exact hI2 i hi
theorem t_L_layOut {K : zS → Prop} {σ : zS} {L : Int → Int} (h4 : σ 4 = L) (hL : (2 ≤ L 0 ∧ L 0 ≤ 9 ∧ 2 ≤ L 1 ∧ L 1 ≤ 9) ∨ (L 0 = 0 ∧ L 1 = 0)) (h : ∀ τ, zQ [5] σ τ → CC L τ → K τ) : q_L_layOut K σ := by
  unfold q_L_layOut
  refine t_J_fill2 (M := 648) rfl ?_
  refine ⟨fun y s => zQ [5] σ s ∧ 0 ≤ y ∧ y ≤ L 1 ∧ (∀ p g, inP L p → 0 ≤ g → g < 8 → s 5 (p * 8 + g) = if p < y * L 0 then bs L p g else -1), fun y _ => (9 - y).toNat, ⟨zQ_F (by decide), by decide, by omega, fun p g ip g0 g1 => ?_⟩, ?_⟩
  · have hg : L 0 * L 1 ≤ 81 := by
      rcases hL with q | q
      · exact (mul_bd q.1 q.2.1 q.2.2.1 q.2.2.2).2
      · rw [q.1]; omega
    have : p < 81 := by have := ip.2; omega
    rw [zFill_at (by have := ip.1; omega) (by omega), if_neg (by have := ip.1; omega)]
  rintro y s ⟨hq, y0, y1, hI⟩ -
  have s4 : s 4 = L := by rw [hq 4 (by decide)]; exact h4
  unfold q_L_deep
  rw [s4]
  refine ⟨fun c => h s hq ⟨s4, fun p g ip g0 g1 => ?_⟩, fun c => ?_⟩
  · rw [hI p g ip g0 g1, if_pos]
    have := ip.2
    rw [show y = L 1 by omega, Int.mul_comm]
    exact this
  · have hG := hL.resolve_right (fun q => by omega)
    have hn := mul_bd hG.1 hG.2.1 hG.2.2.1 hG.2.2.2
    refine ⟨fun z s' => zQ [5] σ s' ∧ 0 ≤ z ∧ z ≤ L 0 ∧ (∀ p g, inP L p → 0 ≤ g → g < 8 → s' 5 (p * 8 + g) = if p < y * L 0 + z then bs L p g else -1), fun z _ => (9 - z).toNat, ⟨hq, by decide, by omega, fun p g ip g0 g1 => by rw [hI p g ip g0 g1, Int.add_zero]⟩, ?_⟩
    rintro z s' ⟨hq', z0, z1, hJ⟩ -
    have s4' : s' 4 = L := by rw [hq' 4 (by decide)]; exact h4
    unfold q_L_wide
    rw [s4']
    refine ⟨fun d => ⟨⟨hq', by omega, by omega, fun p g ip g0 g1 => ?_⟩, zRi (by omega) (by omega), by dsimp only; omega⟩, fun d => t_L_layOutPlace (p := y * L 0 + z) s4' hG ⟨y0, c⟩ ⟨z0, d⟩ rfl (fun τ hτ t1 t2 => ⟨⟨zQ_t hq' hτ, by omega, by omega, fun p g ip g0 g1 => ?_⟩, zRi (by omega) (by omega), by dsimp only; omega⟩)⟩
    · rw [hJ p g ip g0 g1, show z = L 0 by omega, Int.add_mul, Int.one_mul]
    · have hin := gr_in (W := L 0) (D := L 1) y0 c z0 d
      by_cases e : p = y * L 0 + z
      · have old := hJ p g ip g0 g1
        rw [if_neg (by omega)] at old
        rw [if_pos (by omega)]
        rw [e] at old ⊢
        exact t1 g g0 g1 old
      · rw [t2 _ (by omega), hJ p g ip g0 g1]
        by_cases q : p < y * L 0 + z
        · rw [if_pos q, if_pos (by omega)]
        · rw [if_neg q, if_neg (by omega)]
