/-! ===== prepare ===== -/
def bwt (L : Int → Int) (kind e : Int) : Int := if kind = 0 ∨ 4 ≤ kind then (if e ≤ L 3 then L 6 * e else L 7) else 0
theorem kbn_bwt (L : Int → Int) (kind g h : Int) : kbn L kind g h = bwt L kind (eig g h) := rfl
theorem bwt_b {L : Int → Int} (hL : GW L) {kind e : Int} (h0 : 0 ≤ e) (h1 : e ≤ 4) : 0 ≤ bwt L kind e ∧ bwt L kind e ≤ 99 := by
  obtain ⟨t1, t2, t3, t4, t5, t6, t7, t8, t9, t10, t11, t12, -⟩ := hL.2.1
  have h3 := mul_le (a := L 6) (b := e) (A := 9) (B := 4) t9 t10 h0 h1
  unfold bwt
  split
  · split <;> omega
  · omega
/-- what prepare leaves: bends, flats, weights and lifts -/
def PR (L C : Int → Int) (kind n bo : Int) (τ : zS) : Prop :=
  τ 15 11 = L 3 ∧ τ 15 12 = 1 ∧ (∀ e, 0 ≤ e → e ≤ 4 → τ 19 e = bwt L kind e * 1024) ∧ (∀ p, inP L p → τ 18 p = cif (Flt L p) 1 0) ∧ (∀ p g, inP L p → 0 ≤ g → g < 8 → τ 16 (8 * p + g) = wgt L C kind n bo p g ∧ τ 17 (8 * p + g) = lft L n p g)
def qf_prep (kind grade boring : Int) (K : zS → Prop) (σ9 : zS) : Prop :=
  ∃ (I105 : Int → zS → Prop) (μ105 : Int → zS → Nat), (I105 0 σ9) ∧ ∀ (y11 : Int) (σ12 : zS), I105 y11 σ12 → zR y11 →
   q_L_places (fun r14 σ13 => (r14 ≤ y11 → K σ13) ∧ (y11 < r14 → q_L_isFlat y11 (fun r17 σ16 => (0 ≤ y11 ∧ y11 < 81) ∧ (∀ σ19 : zS, σ19 = zU σ16 18 y11 r17 → ∃ (I136 : Int → zS → Prop) (μ136 : Int → zS → Nat), (I136 0 σ19) ∧ ∀ (y20 : Int) (σ21 : zS), I136 y20 σ21 → zR y20 → (8 ≤ y20 → I105 (y11 + 1) σ21 ∧ zR (y11 + 1) ∧ μ105 (y11 + 1) σ21 < μ105 y11 σ12) ∧ (y20 < 8 → q_W_weigh y11 y20 kind grade boring (fun σ25 => I136 (y20 + 1) σ25 ∧ zR (y20 + 1) ∧ μ136 (y20 + 1) σ25 < μ136 y20 σ21) σ21))) σ13)) σ12
theorem t_W_prepLoop {K : zS → Prop} {σ : zS} {L C : Int → Int} {kind n bo : Int} (hc : CC L σ) (hL : GW L) (hCB : CB L C) (hU : kind = 4 → UU L σ) (hC : kind = 5 → ∀ p, inP L p → σ 13 p = C p) (hk : 0 ≤ kind ∧ kind ≤ 5) (hn : 0 ≤ n ∧ n ≤ 99) (h : ∀ τ, zQ [16, 17, 18] σ τ → (∀ p, inP L p → τ 18 p = cif (Flt L p) 1 0) → (∀ p g, inP L p → 0 ≤ g → g < 8 → τ 16 (8 * p + g) = wgt L C kind n bo p g ∧ τ 17 (8 * p + g) = lft L n p g) → K τ) : qf_prep kind n bo K σ := by
  have hN := hL.n
  unfold qf_prep
  refine ⟨fun y s => zQ [16, 17, 18] σ s ∧ 0 ≤ y ∧ y ≤ 81 ∧ (∀ p, inP L p → p < y → s 18 p = cif (Flt L p) 1 0) ∧ (∀ p g, inP L p → p < y → 0 ≤ g → g < 8 → s 16 (8 * p + g) = wgt L C kind n bo p g ∧ s 17 (8 * p + g) = lft L n p g), fun y _ => (81 - y).toNat, ⟨zQ_r _ _, by decide, by decide, fun p ip hlt => by have := ip.1; omega, fun p g ip hlt => by have := ip.1; omega⟩, ?_⟩
  rintro y s ⟨hq, y0, y1, hI1, hI2⟩ -
  have hc' := CC_Q hc hq (by decide)
  refine t_L_places hc' (by omega) ⟨fun c => h s hq (fun p ip => hI1 p ip (by have := ip.2; omega)) (fun p g ip => hI2 p g ip (by have := ip.2; omega)), fun c => ?_⟩
  have iy : inP L y := ⟨y0, c⟩
  have body : ∀ v, v = cif (Flt L y) 1 0 → (0 ≤ y ∧ y < 81) ∧ (∀ σ19 : zS, σ19 = zU s 18 y v → ∃ (I136 : Int → zS → Prop) (μ136 : Int → zS → Nat), (I136 0 σ19) ∧ ∀ (y20 : Int) (σ21 : zS), I136 y20 σ21 → zR y20 → (8 ≤ y20 → (zQ [16, 17, 18] σ σ21 ∧ 0 ≤ y + 1 ∧ y + 1 ≤ 81 ∧ (∀ p, inP L p → p < y + 1 → σ21 18 p = cif (Flt L p) 1 0) ∧ (∀ p g, inP L p → p < y + 1 → 0 ≤ g → g < 8 → σ21 16 (8 * p + g) = wgt L C kind n bo p g ∧ σ21 17 (8 * p + g) = lft L n p g)) ∧ zR (y + 1) ∧ (81 - (y + 1)).toNat < (81 - y).toNat) ∧ (y20 < 8 → q_W_weigh y y20 kind n bo (fun σ25 => I136 (y20 + 1) σ25 ∧ zR (y20 + 1) ∧ μ136 (y20 + 1) σ25 < μ136 y20 σ21) σ21)) := by
    intro v ev
    refine ⟨by omega, fun s1 e1 => ⟨fun z s => zQ [16, 17, 18] σ s ∧ 0 ≤ z ∧ z ≤ 8 ∧ (∀ p, inP L p → p < y + 1 → s 18 p = cif (Flt L p) 1 0) ∧ (∀ p g, inP L p → p < y ∨ (p = y ∧ g < z) → 0 ≤ g → g < 8 → s 16 (8 * p + g) = wgt L C kind n bo p g ∧ s 17 (8 * p + g) = lft L n p g), fun z _ => (8 - z).toNat, ⟨?_, by decide, by decide, fun p ip hlt => ?_, fun p g ip hlt g0 g1 => ?_⟩, ?_⟩⟩
    · rw [e1]; exact zQ_t hq (zQ_U (by decide))
    · rw [e1, zU_if]
      by_cases e : p = y
      · rw [if_pos e, e, ev]
      · rw [if_neg e]; exact hI1 p ip (by omega)
    · rw [e1, zU_row (by decide), zU_row (by decide)]
      exact hI2 p g ip (by omega) g0 g1
    rintro z s2 ⟨hq2, z0, z8, hJ1, hJ2⟩ -
    refine ⟨fun d => ⟨⟨hq2, by omega, by omega, hJ1, fun p g ip hlt g0 g1 => hJ2 p g ip (by omega) g0 g1⟩, zRi (by omega) (by omega), by omega⟩, fun d => ?_⟩
    refine t_W_weigh (CC_Q hc hq2 (by decide)) hL hCB (fun e p g => by rw [hq2 20 (by decide)]; exact hU e p g) (fun e p => by rw [hq2 13 (by decide)]; exact hC e p) hk hn iy ⟨z0, d⟩ (fun τ hτ h16 h17 => ⟨⟨zQ_t hq2 (zQ_m hτ (by decide)), by omega, by omega, fun p ip hlt => ?_, fun p g ip hlt g0 g1 => ?_⟩, zRi (by omega) (by omega), by dsimp only; omega⟩)
    · rw [hτ 18 (by decide)]
      exact hJ1 p ip hlt
    · rw [h16, h17]
      by_cases e : 8 * p + g = 8 * y + z
      · have ep : p = y := by omega
        have eg : g = z := by omega
        subst ep eg
        rw [up_s, up_s]
        exact ⟨rfl, rfl⟩
      · rw [up_o e, up_o e]
        exact hJ2 p g ip (by omega) g0 g1
  exact t_L_isFlat hc' hL iy (fun f => body 1 (cif_t f).symm) (fun f => body 0 (cif_f f).symm)
theorem t_W_prepare {K : zS → Prop} {σ : zS} {L : Int → Int} {kind n bo : Int} (hc : CC L σ) (hL : GW L) (hW : RWs L) (hk : 0 ≤ kind ∧ kind ≤ 5) (hn : 0 ≤ n ∧ n ≤ 99) (h : ∀ τ, zQ [12, 13, 15, 16, 17, 18, 19, 20] σ τ → (∀ k, k ≠ 11 → k ≠ 12 → τ 15 k = σ 15 k) → PR L (catL L) kind n bo τ → K τ) : q_W_prepare kind n bo K σ := by
  have hCB := catL_CB hL
  unfold q_W_prepare
  refine ⟨fun w => (w = 1 ∧ (kind = 0 ∨ 4 ≤ kind)) ∨ (w = 0 ∧ ¬ (kind = 0 ∨ 4 ≤ kind)), fun w hw _ s2 e2 => ?_, kind = 0 ∨ 4 ≤ kind, fun j => Or.inl ⟨rfl, j⟩, fun a => Or.inl a, fun a => ⟨fun b => Or.inr (by omega), fun b => ⟨fun d => Or.inr ⟨rfl, by omega⟩, fun d => Or.inr (by omega)⟩⟩⟩
  have c2 : CC L s2 := by rw [e2]; exact CC_U hc (by decide)
  refine t_L_value (v := 3) c2 (by decide) rfl (fun s5 e5 => ?_)
  have q5 : zQ [15] σ s5 := by rw [e5, e2]; exact zQ_t (zQ_U (by decide)) (zQ_U (by decide))
  have f11 : s5 15 11 = L 3 := by rw [e5, zU_s]
  have f12 : s5 15 12 = 1 := by rw [e5, zU_k (by decide), e2, zU_s]
  have f15 : ∀ k, k ≠ 11 → k ≠ 12 → s5 15 k = σ 15 k := fun k h1 h2 => by rw [e5, zU_k h1, e2, zU_k h2]
  have h15 : ∀ s : zS, s 15 = s5 15 → s 15 11 = L 3 ∧ s 15 12 = 1 ∧ ∀ k, k ≠ 11 → k ≠ 12 → s 15 k = σ 15 k := fun s e => by
    rw [e]
    exact ⟨f11, f12, f15⟩
  refine ⟨fun y s => zQ [19] s5 s ∧ 0 ≤ y ∧ y ≤ 5 ∧ ∀ e, 0 ≤ e → e < y → s 19 e = bwt L kind e * 1024, fun y _ => (5 - y).toNat, ⟨zQ_r _ _, by decide, by decide, fun e a b => by omega⟩, ?_⟩
  rintro y s ⟨hq, y0, y5, hI⟩ -
  have q0 : zQ [15, 19] σ s := zQ_t (zQ_m q5 (by decide)) (zQ_m hq (by decide))
  have hcs := CC_Q hc q0 (by decide)
  refine ⟨fun c => ?_, fun c => ⟨fun d => ⟨by omega, fun s1 e1 => ⟨⟨?_, by omega, by omega, fun e a b => ?_⟩, zRi (by omega) (by omega), by dsimp only; omega⟩⟩, fun d => t_L_bendCost hcs hL ⟨y0, c⟩ ⟨by omega, fun s1 e1 => ⟨⟨?_, by omega, by omega, fun e a b => ?_⟩, zRi (by omega) (by omega), by dsimp only; omega⟩⟩⟩⟩
  · refine ⟨fun s9 => zQ [20] s s9 ∧ (kind = 4 → UU L s9), fun s9 h9 => ?_, fun c4 => ⟨zQ_r _ _, fun e => absurd e c4⟩, fun c4 => t_W_markUsed hcs hL hW (fun τ hτ hu => ⟨hτ, fun _ => hu⟩)⟩
    obtain ⟨q9, u9⟩ := h9
    have hc9 := CC_Q hcs q9 (by decide)
    have q9' : zQ [12, 13, 15, 16, 17, 18, 19, 20] σ s9 := zQ_t (zQ_m q0 (by decide)) (zQ_m q9 (by decide))
    have a15 : s9 15 = s5 15 := by rw [q9 15 (by decide), hq 15 (by decide)]
    have a19 : ∀ e, 0 ≤ e → e ≤ 4 → s9 19 e = bwt L kind e * 1024 := fun e h0 h1 => by
      rw [q9 19 (by decide)]
      exact hI e h0 (by omega)
    have fin : ∀ s10, zQ [12, 13] s9 s10 → (kind = 5 → ∀ p, inP L p → s10 13 p = catL L p) → qf_prep kind n bo K s10 := by
      intro s10 q10 hC
      have hc10 := CC_Q hc9 q10 (by decide)
      refine t_W_prepLoop hc10 hL hCB (fun e p g => by rw [q10 20 (by decide)]; exact u9 e p g) hC hk hn (fun τ hτ t18 t1617 => ?_)
      have b15 : τ 15 = s5 15 := by rw [hτ 15 (by decide), q10 15 (by decide), a15]
      have b19 : τ 19 = s9 19 := by rw [hτ 19 (by decide), q10 19 (by decide)]
      refine h τ (zQ_t q9' (zQ_t (zQ_m q10 (by decide)) (zQ_m hτ (by decide)))) (h15 τ b15).2.2 ⟨(h15 τ b15).1, (h15 τ b15).2.1, fun e => by rw [b19]; exact a19 e, t18, t1617⟩
    exact ⟨fun c5 => fin s9 (zQ_r _ _) (fun e => absurd e c5), fun c5 => t_S_gather hc9 hL (fun τ hτ hcat => fin τ hτ (fun _ => hcat))⟩
  · rw [e1]; exact zQ_t hq (zQ_U (by decide))
  · rw [e1, zU_if]
    by_cases e3 : e = y
    · rw [if_pos e3]
      unfold bwt
      rw [if_neg (by omega)]
      omega
    · rw [if_neg e3]
      exact hI e a (by omega)
  · rw [e1]; exact zQ_t hq (zQ_U (by decide))
  · have hb := bwt_b hL (kind := kind) y0 c
    have eb : (if y ≤ L 3 then L 6 * y else L 7) = bwt L kind y := by
      have hw' : kind = 0 ∨ 4 ≤ kind := by
        rcases hw with x | x
        · exact x.2
        · exact absurd x.1 d
      show _ = if kind = 0 ∨ 4 ≤ kind then (if y ≤ L 3 then L 6 * y else L 7) else 0
      exact (if_pos hw').symm
    rw [e1, zU_if, eb, zShl_10 (by omega) (by omega)]
    by_cases e3 : e = y
    · rw [if_pos e3, e3]
    · rw [if_neg e3]
      exact hI e a (by omega)
