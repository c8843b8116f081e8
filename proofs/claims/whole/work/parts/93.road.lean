/-! ===== road agrees ===== -/
def RdV (L : Int → Int) (r v : Int) : Nat → Prop
  | 0 => v = L (175 + 81 * r)
  | 1 => v = lnT L r (L (175 + 81 * r) - 1)
  | 2 => v = sI (clS L r 1) (L (175 + 81 * r) - 1)
  | 3 => v = sI (mt L r 0) (L (175 + 81 * r) - 1)
  | 4 => v = sI (hpF L r) (L (175 + 81 * r) - 1)
  | 5 => Fst (StyR L r) (L (175 + 81 * r) - 1) v
  | 6 => Fst (BndR L r) (L (175 + 81 * r) - 1) v
  | 7 => StpV L r (L (175 + 81 * r) - 1) v
  | 8 => v = sI (fun k => eoV L (L (216 + 81 * r + k))) (L (175 + 81 * r))
  | 9 => v = sI (ofF L r) (L (175 + 81 * r))
  | 10 => RuV L r v
  | 11 => Mx (sgF L r 1) (L (175 + 81 * r)) v
  | 12 => Mx (sgF L r (-1)) (L (175 + 81 * r)) (-v)
  | 13 => v = mxS L r (L (175 + 81 * r) - 1).toNat
  | _ => v = sI (clS L r (-1)) (L (175 + 81 * r) - 1)
theorem RdV_uniq {L : Int → Int} {r v w : Int} : ∀ n : Nat, n ≤ 14 → RdV L r v n → RdV L r w n → v = w
  | 0, _, a, b => Eq.trans a (Eq.symm b)
  | 1, _, a, b => Eq.trans a (Eq.symm b)
  | 2, _, a, b => Eq.trans a (Eq.symm b)
  | 3, _, a, b => Eq.trans a (Eq.symm b)
  | 4, _, a, b => Eq.trans a (Eq.symm b)
  | 5, _, a, b => Fst_uniq a b
  | 6, _, a, b => Fst_uniq a b
  | 7, _, a, b => StpV_uniq a b
  | 8, _, a, b => Eq.trans a (Eq.symm b)
  | 9, _, a, b => Eq.trans a (Eq.symm b)
  | 10, _, a, b => RuV_uniq a b
  | 11, _, a, b => Mx_uniq a b
  | 12, _, a, b => by
    have := Mx_uniq (show Mx (sgF L r (-1)) (L (175 + 81 * r)) (-v) from a) b
    omega
  | 13, _, a, b => Eq.trans a (Eq.symm b)
  | 14, _, a, b => Eq.trans a (Eq.symm b)
  | n + 15, h, _, _ => by omega
theorem pr_road {σ : zS} {r d : Int} (hi : INV σ) : q_A_road r d (fun x u => q_M_road r d (fun v w => Agr x v w) u) σ := by
  obtain ⟨L, hc, hm, hl, -⟩ := id hi
  have ref : ∀ (x : Int) (u : zS), FR σ u → (¬ (0 ≤ r ∧ r < 4) → Agr x 0 (zU u 41 0 1)) → ((0 ≤ r ∧ r < 4) → ¬ (0 ≤ d ∧ d ≤ 14) → Agr x 0 (zU u 41 0 2)) → ((0 ≤ r ∧ r < 4) → (0 ≤ d ∧ d ≤ 14) → L (175 + 81 * r) = 0 → Agr x 0 (zU u 41 0 3)) → ((0 ≤ r ∧ r < 4) → (0 ≤ d ∧ d ≤ 14) → L (175 + 81 * r) ≠ 0 → ∀ v τ, zQ [41, 54, 55] (zU u 41 0 0) τ → (∀ k, k ≠ 20 → τ 41 k = zU u 41 0 0 41 k) → RdV L r v d.toNat → Agr x v τ) → q_M_road r d (fun v w => Agr x v w) u := by
    intro x u fr a1 a2 a3 a0
    have hmu := FR_MM fr hm
    unfold q_M_road
    refine t_M_isRoad (fun b0 b1 => ⟨fun w s => s = u ∧ GdP (¬ (0 ≤ r ∧ r < 4)) (¬ (0 ≤ d ∧ d ≤ 14)) (L (175 + 81 * r) = 0) w, fun w s4 hj _ => gd3 (K := fun s => Agr x 0 s) a1 (fun a b => a2 (Classical.not_not.mp a) b) (fun a b c => a3 (Classical.not_not.mp a) (Classical.not_not.mp b) c) (fun a b c => ?_) w s4 hj, n1b (t_M_isIn (fun x y => n1b (t_M_many hmu ⟨b0, b1⟩ ?_)) (fun x => n0b ?_))⟩) (fun b => ⟨fun w s => s = u ∧ GdP (¬ (0 ≤ r ∧ r < 4)) (¬ (0 ≤ d ∧ d ≤ 14)) (L (175 + 81 * r) = 0) w, fun w s4 hj _ => gd3 (K := fun s => Agr x 0 s) a1 (fun a b => a2 (Classical.not_not.mp a) b) (fun a b c => a3 (Classical.not_not.mp a) (Classical.not_not.mp b) c) (fun a _ _ => absurd b a) w s4 hj, n0b ⟨rfl, Or.inl ⟨rfl, b⟩⟩⟩)
    · have hr : 0 ≤ r ∧ r < 4 := ⟨b0, b1⟩
      have hd := Classical.not_not.mp b
      obtain ⟨hL, hW⟩ := hl.rd b0 b1 c
      have wr := hW r b0 b1
      have hRW := wr.resolve_left c
      have hm5 : MM L (-1) (-1) (zU u 41 0 0) := MM_F hmu (by decide)
      refine t_M_laysPath hm5 hr wr c (fun τ q h41 h20 h54 => ?_)
      have hmt := MM_41 hm5 q h41
      have q2 : zQ [41, 54, 55] (zU u 41 0 0) τ := zQ_m q (by decide)
      have go : ∀ v, RdV L r v d.toNat → Agr x v τ := fun v hv => a0 hr hd c v τ q2 h41 hv
      have mc : ∀ (k : Int) (f : Int → Int), (∀ i, 0 ≤ i → i < L (175 + 81 * r) - 1 → mt L r k i = f i) → sI (mt L r k) (L (175 + 81 * r) - 1) = sI f (L (175 + 81 * r) - 1) := fun k f hf => sI_congr hf
      refine ⟨fun e => ?_, fun e => ?_, fun e => ?_, fun e => ?_, fun e => ?_, fun e => ?_, fun e => ?_, fun e => ?_, fun e => ?_, fun e => ?_, fun e => ?_, fun e => ?_, fun e => ?_, fun e => ?_, fun e => ?_⟩
      · exact t_M_many hmt hr (go _ (by rw [e]; exact rfl))
      · refine t_M_measureR hmt hL hW.rb wr c h20 h54 (by decide) (go _ ?_)
        rw [e]
        exact mc 1 (fun i => lng (rhd L r i)) (fun i _ _ => mt_1 L r i)
      · refine t_M_measureR hmt hL hW.rb wr c h20 h54 (by decide) (go _ ?_)
        rw [e]
        refine mc 2 (clS L r 1) (fun i i0 i1 => ?_)
        rw [mt_2, (wr.hd i0 (by omega)).2.1]
        unfold clS
        rw [if_pos rfl]
      · refine t_M_measureR hmt hL hW.rb wr c h20 h54 (by decide) (go _ ?_)
        rw [e]
        exact rfl
      · exact t_M_hairpins hmt hL hr wr c (go _ (by rw [e]; exact rfl))
      · exact t_M_brokenStep hmt hL hr wr c (fun v hv => go v (by rw [e]; exact hv))
      · exact t_M_brokenBend hmt hL hr wr c (fun v hv => go v (by rw [e]; exact hv))
      · exact t_M_steepest hmt hL hr wr c (fun v hv => go v (by rw [e]; exact hv))
      · exact t_M_earthNow hmt hL hr wr c (go _ (by rw [e]; exact rfl))
      · exact t_M_offsets hmt hr wr c (go _ (by rw [e]; exact rfl))
      · exact t_M_ruling hmt hL hr wr c (fun v τ' q' hv => a0 hr hd c v τ' (zQ_t q2 (zQ_m q' (by decide))) (fun k hk => by rw [q' 41 (by decide)]; exact h41 k hk) (by rw [e]; exact hv))
      · exact t_M_highest hmt hL hr wr c (fun v h1 _ => go v (by rw [e]; exact h1 (by decide)))
      · exact t_M_highest hmt hL hr wr c (fun v _ h2 => go v (by rw [e]; exact h2 rfl))
      · exact t_M_straight hmt hL hr wr c (go _ (by rw [e]; exact rfl))
      · have e14 : d = 14 := by omega
        exact t_M_descent hmt hL hr wr c (go _ (by rw [e14]; exact rfl))
    · have g1 : ¬ ¬ (0 ≤ r ∧ r < 4) := fun z => z ⟨b0, b1⟩
      have g2 : ¬ ¬ (0 ≤ d ∧ d ≤ 14) := fun z => z ⟨x, y⟩
      exact ⟨fun e => ⟨rfl, Or.inr ⟨g1, Or.inr ⟨g2, Or.inr ⟨rfl, e⟩⟩⟩⟩, fun e => ⟨rfl, Or.inr ⟨g1, Or.inr ⟨g2, Or.inl ⟨rfl, e⟩⟩⟩⟩⟩
    · exact ⟨rfl, Or.inr ⟨fun z => z ⟨b0, b1⟩, Or.inl ⟨rfl, x⟩⟩⟩
  unfold q_A_road q_R_road
  refine t_R_needRoad (fun b0 b1 => t_R_needAnswer (fun n0 n1 => t_R_needBuilt hc ⟨b0, b1⟩ (fun nz => ?_) (fun z => Or.inr (Or.inr ⟨rfl, ref 3 σ (FR_r σ) (fun w => absurd ⟨b0, b1⟩ w) (fun _ w => absurd ⟨n0, by omega⟩ w) (fun _ _ _ => Agr_x hi (by decide)) (fun _ _ w => absurd z w)⟩))) (fun nn => Or.inr (Or.inl ⟨rfl, ref 2 σ (FR_r σ) (fun w => absurd ⟨b0, b1⟩ w) (fun _ _ => Agr_x hi (by decide)) (fun _ w => absurd ⟨w.1, by omega⟩ nn) (fun _ w => absurd ⟨w.1, by omega⟩ nn)⟩))) (fun b => Or.inl ⟨rfl, ref 1 σ (FR_r σ) (fun _ => Agr_x hi (by decide)) (fun w => absurd w b) (fun w => absurd w b) (fun w => absurd w b)⟩)
  have hr : 0 ≤ r ∧ r < 4 := ⟨b0, b1⟩
  obtain ⟨hL, hW⟩ := hl.rd b0 b1 nz
  have wr := hW r b0 b1
  have hRW := wr.resolve_left nz
  have val : ∀ v u, zQ [35, 36, 37] σ u → RdV L r v d.toNat → q_M_road r d (fun v w => Agr 0 v w) (zU u 64 0 v) := by
    intro v u q hv
    have fr : FR σ (zU u 64 0 v) := FR_t (FR_Q q (by decide) (by decide)) (FR_64 v)
    refine ref 0 _ fr (fun w => absurd hr w) (fun _ w => absurd ⟨n0, by omega⟩ w) (fun _ _ w => absurd w nz) (fun _ _ _ v' τ' q' h41 hv' => ?_)
    rw [RdV_uniq d.toNat (by omega) hv' hv]
    refine Agr_0 hi (FR_t (FR_t fr (FR_F (by decide))) (FR_Qf q' (by decide) (fun k hk => h41 k (fun e => ?_)))) (by rw [h41 0 (by decide), zU_s]) (by rw [q' 64 (by decide), zU_o (by decide), zU_s])
    rw [e] at hk
    revert hk
    decide
  have go : ∀ v, RdV L r v d.toNat → q_M_road r d (fun v w => Agr 0 v w) (zU σ 64 0 v) := fun v hv => val v σ (zQ_r _ _) hv
  unfold q_U_answer
  refine ⟨fun e => ?_, fun e => ?_, fun e => ?_, fun e => ?_, fun e => ?_, fun e => ?_, fun e => ?_, fun e => ?_, fun e => ?_, fun e => ?_, fun e => ?_, fun e => ?_, fun e => ?_, fun e => ?_, fun e => ?_⟩
  · exact t_L_roadSize hc hr (go _ (by rw [e]; exact rfl))
  · exact t_U_longTogether hc hL hr wr nz (go _ (by rw [e]; exact rfl))
  · exact t_U_climbed (Or.inl rfl) hc hL hr wr nz (go _ (by rw [e]; exact rfl))
  · exact t_U_costTogether hc hL hr wr nz (go _ (by rw [e]; exact rfl))
  · exact t_U_hairpins hc hL hr wr nz (go _ (by rw [e]; exact rfl))
  · exact t_U_firstBrokenStep hc hL hr wr nz (fun v hv => go v (by rw [e]; exact hv))
  · exact t_U_firstBrokenBend hc hL hr wr nz (fun v hv => go v (by rw [e]; exact hv))
  · exact t_U_steepest hc hL hr wr nz (fun v hv => go v (by rw [e]; exact hv))
  · exact t_U_earthTogether hc hL hr wr nz (go _ (by rw [e]; exact rfl))
  · exact t_U_offsetsTogether hc hr wr nz (go _ (by rw [e]; exact rfl))
  · exact t_G_leastRule hc hL hr wr nz (fun v τ q hv => val v τ q (by rw [e]; exact hv))
  · exact t_U_greatestLevel (Or.inl rfl) hc hL hr wr nz (fun v hv _ => go v (by rw [e]; exact hv))
  · refine t_U_greatestLevel (Or.inr rfl) hc hL hr wr nz (fun v hv b => ⟨zRi (by omega) (by omega), go (-v) ?_⟩)
    rw [e]
    show Mx (sgF L r (-1)) (L (175 + 81 * r)) (- -v)
    rw [Int.neg_neg]
    exact hv
  · exact t_U_longestStraight hc hL hr wr nz (go _ (by rw [e]; exact rfl))
  · have e14 : d = 14 := by omega
    exact t_U_climbed (Or.inr rfl) hc hL hr wr nz (go _ (by rw [e14]; exact rfl))
