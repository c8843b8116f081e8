/-! ===== stages agrees ===== -/
def StV (L : Int → Int) (r n v : Int) : Prop := ∃ w, Lst (fun m => Ft (lnT L r) (L (175 + 81 * r) - 1) m n.toNat 0) w ∧ v = if w = 1000000000 then -1 else w
theorem StV_uniq {L : Int → Int} {r n v v' : Int} (h : StV L r n v) (h' : StV L r n v') : v = v' := by
  obtain ⟨w, hw, e⟩ := h
  obtain ⟨w', hw', e'⟩ := h'
  rw [e, e', Lst_uniq hw hw']
theorem pr_stages {σ : zS} {r n : Int} (hi : INV σ) : q_A_stages r n (fun x u => q_M_stages r n (fun v w => Agr x v w) u) σ := by
  obtain ⟨L, hc, hm, hl, -⟩ := id hi
  have ref : ∀ (x : Int) (u : zS), FR σ u → (¬ (0 ≤ r ∧ r < 4) → Agr x 0 (zU u 41 0 1)) → ((0 ≤ r ∧ r < 4) → ¬ (1 ≤ n ∧ n ≤ 6) → Agr x 0 (zU u 41 0 2)) → ((0 ≤ r ∧ r < 4) → (1 ≤ n ∧ n ≤ 6) → L (175 + 81 * r) = 0 → Agr x 0 (zU u 41 0 3)) → ((0 ≤ r ∧ r < 4) → (1 ≤ n ∧ n ≤ 6) → L (175 + 81 * r) ≠ 0 → ∀ v τ, zQ [61] (zU u 41 0 0) τ → StV L r n v → Agr x v τ) → q_M_stages r n (fun v w => Agr x v w) u := by
    intro x u fr a1 a2 a3 a0
    have hmu := FR_MM fr hm
    unfold q_M_stages
    refine t_M_isRoad (fun b0 b1 => ⟨fun w s => s = u ∧ GdP (¬ (0 ≤ r ∧ r < 4)) (¬ (1 ≤ n ∧ n ≤ 6)) (L (175 + 81 * r) = 0) w, fun w s4 hj _ => gd3 (K := fun s => Agr x 0 s) a1 (fun a b => a2 (Classical.not_not.mp a) b) (fun a b c => a3 (Classical.not_not.mp a) (Classical.not_not.mp b) c) (fun a b c => ?_) w s4 hj, n1b (t_M_isIn (fun x y => n1b (t_M_many hmu ⟨b0, b1⟩ ?_)) (fun x => n0b ?_))⟩) (fun b => ⟨fun w s => s = u ∧ GdP (¬ (0 ≤ r ∧ r < 4)) (¬ (1 ≤ n ∧ n ≤ 6)) (L (175 + 81 * r) = 0) w, fun w s4 hj _ => gd3 (K := fun s => Agr x 0 s) a1 (fun a b => a2 (Classical.not_not.mp a) b) (fun a b c => a3 (Classical.not_not.mp a) (Classical.not_not.mp b) c) (fun a _ _ => absurd b a) w s4 hj, n0b ⟨rfl, Or.inl ⟨rfl, b⟩⟩⟩)
    · have hr : 0 ≤ r ∧ r < 4 := ⟨b0, b1⟩
      have hd := Classical.not_not.mp b
      obtain ⟨hL, hW⟩ := hl.rd b0 b1 c
      have hm5 : MM L (-1) (-1) (zU u 41 0 0) := MM_F hmu (by decide)
      have hRW := (hW r b0 b1).resolve_left c
      refine ⟨fun y s => zQ [61] (zU u 41 0 0) s ∧ 0 ≤ y ∧ ∀ i, 0 ≤ i → i < y → s 61 i = -1, fun y _ => (280 - y).toNat, ⟨zQ_r _ _, by decide, fun i i0 i1 => by omega⟩, ?_⟩
      rintro y s ⟨hq, y0, hI⟩ -
      refine ⟨fun e => ?_, fun e => ⟨⟨y0, e⟩, fun s15 e15 => ⟨⟨by rw [e15]; exact zQ_t hq (zQ_U (by decide)), by omega, fun i i0 i1 => ?_⟩, zRi (by omega) (by omega), by dsimp only; omega⟩⟩⟩
      · refine t_M_stagesFrom hL hr (hW r b0 b1) c 8 n.toNat 0 n _ s (by omega) (by omega) (by omega) (by decide) (by omega) (MM_Q hm5 hq (by decide)) (fun k l k0 k1 l6 => Or.inl (hI _ (by omega) (by omega))) (fun v τ qt hMt hv => ?_)
        refine ⟨fun ne => a0 hr hd c v τ (zQ_t hq qt) ⟨v, hv, by rw [if_neg ne]⟩, fun ee => a0 hr hd c _ τ (zQ_t hq qt) ⟨v, hv, by rw [if_pos ee]⟩⟩
      · rw [e15, zU_if]
        by_cases ei : i = y
        · rw [if_pos ei]
        · rw [if_neg ei]
          exact hI i i0 (by omega)
    · have g1 : ¬ ¬ (0 ≤ r ∧ r < 4) := fun z => z ⟨b0, b1⟩
      have g2 : ¬ ¬ (1 ≤ n ∧ n ≤ 6) := fun z => z ⟨x, y⟩
      exact ⟨fun e => ⟨rfl, Or.inr ⟨g1, Or.inr ⟨g2, Or.inr ⟨rfl, e⟩⟩⟩⟩, fun e => ⟨rfl, Or.inr ⟨g1, Or.inr ⟨g2, Or.inl ⟨rfl, e⟩⟩⟩⟩⟩
    · exact ⟨rfl, Or.inr ⟨fun z => z ⟨b0, b1⟩, Or.inl ⟨rfl, x⟩⟩⟩
  unfold q_A_stages q_R_stages
  refine t_R_needRoad (fun b0 b1 => t_R_needNumber (fun n0 n1 => t_R_needBuilt hc ⟨b0, b1⟩ (fun nz => ?_) (fun z => Or.inr (Or.inr ⟨rfl, ref 3 σ (FR_r σ) (fun w => absurd ⟨b0, b1⟩ w) (fun _ w => absurd ⟨n0, n1⟩ w) (fun _ _ _ => Agr_x hi (by decide)) (fun _ _ w => absurd z w)⟩))) (fun nn => Or.inr (Or.inl ⟨rfl, ref 2 σ (FR_r σ) (fun w => absurd ⟨b0, b1⟩ w) (fun _ _ => Agr_x hi (by decide)) (fun _ w => absurd w nn) (fun _ w => absurd w nn)⟩))) (fun b => Or.inl ⟨rfl, ref 1 σ (FR_r σ) (fun _ => Agr_x hi (by decide)) (fun w => absurd w b) (fun w => absurd w b) (fun w => absurd w b)⟩)
  have hr : 0 ≤ r ∧ r < 4 := ⟨b0, b1⟩
  obtain ⟨hL, hW⟩ := hl.rd b0 b1 nz
  have wr := hW r b0 b1
  have hRW := wr.resolve_left nz
  have val : ∀ v, StV L r n v → q_M_stages r n (fun v w => Agr 0 v w) (zU σ 64 0 v) := by
    intro v hv
    have fr : FR σ (zU σ 64 0 v) := FR_64 v
    refine ref 0 _ fr (fun w => absurd hr w) (fun _ w => absurd ⟨n0, n1⟩ w) (fun _ _ w => absurd w nz) (fun _ _ _ v' τ' q' hv' => ?_)
    rw [StV_uniq hv' hv]
    exact Agr_0 hi (FR_t (FR_t fr (FR_F (by decide))) (FR_Q q' (by decide) (by decide))) (by rw [q' 41 (by decide), zU_s]) (by rw [q' 64 (by decide), zU_o (by decide), zU_s])
  have hT := lnT_TP L r
  unfold q_U_leastStage q_U_steps
  refine t_L_roadSize hc hr ⟨zRi (by omega) (by omega), fun e => ?_, fun e => ?_⟩
  · refine t_R_longOf (t_U_longTogether hc hL hr wr nz ?_)
    have bt := hT.2 0 (L (175 + 81 * r) - 1) (by decide) (by omega)
    have b0' := hT.1
    refine ⟨fun lo hi' s => s = σ ∧ 10 ≤ lo ∧ lo ≤ hi' ∧ hi' ≤ 546 ∧ Ft (lnT L r) (L (175 + 81 * r) - 1) hi' n.toNat 0 ∧ ∀ m, m < lo → ¬ Ft (lnT L r) (L (175 + 81 * r) - 1) m n.toNat 0, fun lo hi' _ => (hi' - lo).toNat, ⟨rfl, by decide, ?_, by omega, ?_, fun m m1 => ?_⟩, ?_⟩
    · show (10 : Int) ≤ _
      omega
    · exact Ft_more hT (c := 1) ⟨L (175 + 81 * r) - 1, by omega, by omega, by omega, rfl⟩ (by decide) n.toNat (by omega) (by omega)
    · rw [show n.toNat = (n.toNat - 1) + 1 by omega]
      rintro ⟨j, j1, j2, j3, -⟩
      have m2 : m < 10 := m1
      have := hT.2 0 j (by decide) (by omega)
      omega
    rintro lo hi' s ⟨rfl, l0, l1, h1, hF, hN⟩ - -
    refine ⟨fun ee => val hi' ⟨hi', Or.inr ⟨by omega, by omega, hF, fun m m0 hm' => ?_⟩, by rw [if_neg (by omega)]⟩, fun lt => ⟨zRi (by omega) (by omega), fun x ex => ?_⟩⟩
    · by_cases c : m < hi'
      · exact absurd hm' (hN m (by omega))
      · omega
    · rw [Int.tdiv_eq_ediv_of_nonneg (by omega)] at ex
      refine ⟨zRi (by omega) (by omega), t_U_partsWithin hc hL hr wr nz (by omega) (fun c hcc => ?_)⟩
      have hq := hcc n.toNat (by omega) (by omega) (by omega)
      refine ⟨fun gt x18 e18 => ⟨⟨rfl, by omega, by omega, h1, hF, fun m m1 hm' => ?_⟩, zRi (by omega) (by omega), by dsimp only; omega⟩, fun le => ⟨⟨rfl, l0, by omega, by omega, hq.mp (by omega), hN⟩, by dsimp only; omega⟩⟩
      have := hq.mpr (Ft_mono (show m ≤ x by omega) _ _ hm')
      omega
  · refine val (-1) ⟨1000000000, Or.inl ⟨rfl, fun m m0 z => ?_⟩, by rw [if_pos rfl]⟩
    have := Ft_le _ _ z
    omega
