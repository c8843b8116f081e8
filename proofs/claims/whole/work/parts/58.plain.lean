/-! ===== water, count, fault, end ===== -/
theorem pr_water {σ : zS} {p c : Int} (hi : INV σ) : q_A_water p c (fun r u => q_M_water p c (fun v w => Agr r v w) u) σ := by
  obtain ⟨L, hc, hm, hl, -⟩ := id hi
  have hn := hl.n
  have ref : ∀ (r : Int) (u : zS), FR σ u → (¬ inP L p → Agr r 0 (zU u 41 0 1)) → (inP L p → ¬ (0 ≤ c ∧ c ≤ 2) → Agr r 0 (zU u 41 0 2)) → (inP L p → (0 ≤ c ∧ c ≤ 2) → ∀ v τ, zQ [62, 63] (zU u 41 0 0) τ → ((c = 0 → v = run L p) ∧ (c = 1 → v = catL L p) ∧ (c = 2 → ∃ d, SPF L d ∧ v = d p)) → Agr r v τ) → q_M_water p c (fun v w => Agr r v w) u := by
    intro r u fr a1 a2 a0
    have hmu := FR_MM fr hm
    have guard := gd3 (σ := u) (K := fun s => Agr r 0 s) (c1 := ¬ inP L p) (c2 := ¬ (0 ≤ c ∧ c ≤ 2)) (c3 := False) (body := fun σ5 => (c = 0 → q_M_runOf p (fun r10 σ9 => Agr r r10 σ9) σ5) ∧ (c = 1 → q_M_laysCatches (fun σ12 => (0 ≤ p ∧ p < 81) ∧ (Agr r (σ12 62 p) σ12)) σ5) ∧ (c ≠ 0 ∧ c ≠ 1 → q_M_spillOf p (fun r16 σ15 => Agr r r16 σ15) σ5)) a1 (fun x y => a2 (Classical.not_not.mp x) y) (fun _ _ x => x.elim) (fun x y _ => ?_)
    · unfold q_M_water
      refine t_M_isPlace hmu hn (fun i => ⟨fun w s => s = u ∧ GdP (¬ inP L p) (¬ (0 ≤ c ∧ c ≤ 2)) False w, fun w s4 hj _ => guard w s4 hj, n1b (t_M_isIn (fun a b => n1b ⟨rfl, Or.inr ⟨fun x => x i, Or.inr ⟨fun x => x ⟨a, b⟩, Or.inr ⟨rfl, id⟩⟩⟩⟩) (fun a => n0b ⟨rfl, Or.inr ⟨fun x => x i, Or.inl ⟨rfl, a⟩⟩⟩))⟩) (fun i => ⟨fun w s => s = u ∧ GdP (¬ inP L p) (¬ (0 ≤ c ∧ c ≤ 2)) False w, fun w s4 hj _ => guard w s4 hj, n0b ⟨rfl, Or.inl ⟨rfl, i⟩⟩⟩)
    · have i := Classical.not_not.mp x
      have hc02 := Classical.not_not.mp y
      obtain ⟨hL, hW⟩ := hl.gw i
      have hm5 : MM L (-1) (-1) (zU u 41 0 0) := MM_F hmu (by decide)
      refine ⟨fun e => t_M_runOf hm5 hL i (a0 i hc02 _ _ (zQ_r _ _) ⟨fun _ => rfl, fun q => by omega, fun q => by omega⟩), fun e => t_M_laysCatches hm5 hL (fun τ q hcat => ⟨i.b hL, a0 i hc02 _ τ (zQ_m q (by decide)) ⟨fun q => by omega, fun _ => hcat p i, fun q => by omega⟩⟩), fun e => t_M_spillOf hm5 hL i (fun τ q hs => a0 i hc02 _ τ (zQ_m q (by decide)) ⟨fun q => by omega, fun q => by omega, fun _ => ⟨_, hs, rfl⟩⟩)⟩
  unfold q_A_water q_R_water
  refine t_R_needPlace hc hn (fun i => t_R_needAnswer (fun c0 c1 => ?_) (fun nk => Or.inr ⟨rfl, ref 2 σ (FR_r σ) (fun x => absurd i x) (fun _ _ => Agr_x hi (by decide)) (fun _ x => absurd ⟨x.1, by omega⟩ nk)⟩)) (fun ni => Or.inl ⟨rfl, ref 1 σ (FR_r σ) (fun _ => Agr_x hi (by decide)) (fun x => absurd x ni) (fun x => absurd x ni)⟩)
  obtain ⟨hL, hW⟩ := hl.gw i
  have hc02 : 0 ≤ c ∧ c ≤ 2 := ⟨c0, by omega⟩
  have val : ∀ v u, zQ [12, 13, 14] σ u → ((c = 0 → v = run L p) ∧ (c = 1 → v = catL L p) ∧ (c = 2 → ∀ d, SPF L d → v = d p)) → q_M_water p c (fun v w => Agr 0 v w) (zU u 64 0 v) := by
    intro v u q hv
    have fr : FR σ (zU u 64 0 v) := FR_t (FR_Q q (by decide) (by decide)) (FR_64 v)
    refine ref 0 _ fr (fun x => absurd i x) (fun _ x => absurd hc02 x) (fun _ _ v' τ q' hv' => ?_)
    have e : v' = v := by
      have : c = 0 ∨ c = 1 ∨ c = 2 := by omega
      rcases this with e | e | e
      · rw [hv.1 e, hv'.1 e]
      · rw [hv.2.1 e, hv'.2.1 e]
      · obtain ⟨d, hd, ed⟩ := hv'.2.2 e
        rw [ed, hv.2.2 e d hd]
    rw [e]
    exact Agr_0 hi (FR_t (FR_t fr (FR_F (by decide))) (FR_Q q' (by decide) (by decide))) (by rw [q' 41 (by decide), zU_s]) (by rw [q' 64 (by decide), zU_o (by decide), zU_s])
  refine ⟨fun e => t_S_runOf hc hL i (val _ σ (zQ_r _ _) ⟨fun _ => rfl, fun q => by omega, fun q => by omega⟩), fun e => t_S_gather hc hL (fun τ q hcat => ?_), fun e => t_S_spillOf hc hL i (fun r τ q hr => val r τ (zQ_m q (by decide)) ⟨fun q => by omega, fun q => by omega, fun _ => hr⟩)⟩
  unfold q_S_catchOf
  exact ⟨i.b hL, val _ τ (zQ_m q (by decide)) ⟨fun q => by omega, fun _ => hcat p i, fun q => by omega⟩⟩
theorem pr_fault {σ : zS} (hi : INV σ) : q_R_fault (fun r u => q_M_fault (fun v w => r = v ∧ INV w) u) σ := by
  obtain ⟨L, hc, hm, hl, h1, h2, h3, h4, h5⟩ := id hi
  unfold q_R_fault q_M_fault
  rintro s1 e1
  refine ⟨?_, by rw [e1]; exact INV_FR (FR_F (by decide)) hi⟩
  rw [e1, zU_k (by decide)]
  exact h4
theorem pr_end {σ : zS} {n : Int} (hi : INV σ) : q_R_end n (fun r u => q_M_end n (fun v w => r = v ∧ INV w) u) σ := by
  obtain ⟨L, hc, hm, hl, h1, h2, h3, h4, h5⟩ := id hi
  have ref : ∀ (r : Int) (u : zS), u 41 11 = σ 41 11 → ((0 ≤ n ∧ n ≤ σ 41 11) → r = 1 ∧ INV (zU (zU u 41 0 0) 41 11 n)) → (¬ (0 ≤ n ∧ n ≤ σ 41 11) → r = 0 ∧ INV (zU u 41 0 0)) → q_M_end n (fun v w => r = v ∧ INV w) u := by
    intro r u e11 a1 a0
    unfold q_M_end
    rintro s1 e1
    have f11 : s1 41 11 = σ 41 11 := by rw [e1, zU_k (by decide), e11]
    rw [f11]
    refine t_M_isIn (fun c d => n1b (fun s6 e6 => ?_)) (fun c => n0b ?_)
    · rw [e6, e1]
      exact a1 ⟨c, d⟩
    · rw [e1]
      exact a0 c
  unfold q_R_end q_T_cut
  have h11 : σ 1 1 = σ 41 11 := h1.1
  refine ⟨fun c => ref 0 σ rfl (fun x => absurd x.1 (by omega)) (fun _ => ⟨rfl, INV_FR (FR_F (by decide)) hi⟩), fun c => ⟨fun d s4 e4 => ref 1 s4 (by rw [e4, zU_o (by decide)]) (fun _ => ⟨rfl, ?_⟩) (fun x => absurd ⟨c, by omega⟩ x), fun d => ref 0 σ rfl (fun x => absurd x.2 (by omega)) (fun _ => ⟨rfl, INV_FR (FR_F (by decide)) hi⟩)⟩⟩
  have key : ∀ w : zS, w = zU (zU (zU σ 1 1 n) 41 0 0) 41 11 n → INV w := by
    intro w ew
    have fo : ∀ o, o ≠ 1 → o ≠ 41 → w o = σ o := fun o p1 p2 => by rw [ew, zU_row p2, zU_row p2, zU_row p1]
    have f41 : ∀ k, k ≠ 0 → k ≠ 11 → w 41 k = σ 41 k := fun k p1 p2 => by rw [ew, zU_k p2, zU_k p1, zU_o (by decide)]
    have g11 : w 41 11 = n := by rw [ew, zU_s]
    have g1 : w 1 1 = n := by rw [ew, zU_o (by decide), zU_o (by decide), zU_s]
    refine ⟨L, ?_, ?_, hl, ?_, ?_, ?_, ?_, ?_⟩
    · unfold CC
      rw [fo 4 (by decide) (by decide), fo 5 (by decide) (by decide)]
      exact hc
    · unfold MM
      rw [fo 42 (by decide) (by decide), fo 47 (by decide) (by decide), fo 48 (by decide) (by decide), f41 28 (by decide) (by decide), f41 29 (by decide) (by decide)]
      exact hm
    · unfold TpO
      rw [g11, g1, fo 2 (by decide) (by decide), fo 49 (by decide) (by decide)]
      exact ⟨rfl, ⟨c, by have := h1.2.1; omega⟩, h1.2.2⟩
    · unfold PsO
      rw [fo 9 (by decide) (by decide), fo 10 (by decide) (by decide), fo 43 (by decide) (by decide), f41 3 (by decide) (by decide)]
      exact h2
    · unfold ImO
      rw [fo 0 (by decide) (by decide), fo 40 (by decide) (by decide), fo 44 (by decide) (by decide), f41 5 (by decide) (by decide)]
      exact h3
    · rw [fo 0 (by decide) (by decide), f41 14 (by decide) (by decide)]
      exact h4
    · unfold SaO
      rw [fo 45 (by decide) (by decide), fo 46 (by decide) (by decide)]
      exact h5
  exact key _ (by rw [e4])
/-- a sum over places -/
theorem pr_count {σ : zS} {c : Int} (hi : INV σ) : q_R_count c (fun r u => q_M_count c (fun v w => r = v ∧ INV w) u) σ := by
  obtain ⟨L, hc, hm, hl, h1, h2, h3, h4, h5⟩ := id hi
  have hn := hl.n
  have hm1 : MM L (-1) (-1) (zU σ 41 0 0) := MM_F hm (by decide)
  have hI1 : INV (zU σ 41 0 0) := INV_FR (FR_F (by decide)) hi
  have ncast : (((L 0 * L 1).toNat : Nat) : Int) = L 0 * L 1 := Int.toNat_of_nonneg hn.1
  have ref : ∀ r, ((c = 0 → r = L 0) ∧ (c = 1 → r = L 1) ∧ (c = 2 → r = smI (fun p => L (94 + (p : Nat))) (L 0 * L 1).toNat) ∧ (c = 3 → r = bts (fun x => L (175 + 81 * x) ≠ 0) 4) ∧ (c = 4 → r = σ 41 3) ∧ (c = 5 → r = smI (fun p => if run L (p : Nat) = -1 then 1 else 0) (L 0 * L 1).toNat) ∧ (¬ (0 ≤ c ∧ c ≤ 5) → r = -1)) → q_M_count c (fun v w => r = v ∧ INV w) σ := by
    intro r hr
    unfold q_M_count
    rintro s1 e1
    rw [← e1] at hm1 hI1
    rw [hm1.1]
    refine ⟨fun e => ⟨hr.1 e, hI1⟩, fun e => ⟨hr.2.1 e, hI1⟩, fun e => ?_, fun e => ?_, fun e => ⟨by rw [hr.2.2.2.2.1 e, e1, zU_k (by decide)], hI1⟩, fun e => ?_, fun e => ⟨hr.2.2.2.2.2.2 (by omega), hI1⟩⟩
    · refine ⟨fun x y s => s = s1 ∧ 0 ≤ y ∧ y ≤ L 0 * L 1 ∧ x = smI (fun p => L (94 + (p : Nat))) y.toNat ∧ 0 ≤ x ∧ x ≤ y, fun _ y _ => (81 - y).toNat, ⟨rfl, by decide, hn.1, rfl, by decide, by decide⟩, ?_⟩
      rintro x y s ⟨rfl, y0, y1, hx, x0, x1⟩ - -
      refine t_M_places hm1 hn ⟨fun d => ⟨?_, hI1⟩, fun d => ?_⟩
      · rw [hr.2.2.1 e, hx, show y = L 0 * L 1 by omega]
      · have ip : inP L y := ⟨y0, d⟩
        obtain ⟨hL, hW⟩ := hl.gw ip
        have ib := ip.b hL
        have hw := hL.2.2.2 y ib.1 ib.2
        rw [hm1.1]
        refine ⟨by omega, fun x15 e15 => ⟨⟨rfl, by omega, by omega, ?_, by omega, by omega⟩, zRi (by omega) (by omega), zRi (by omega) (by omega), by dsimp only; omega⟩⟩
        rw [smI_i _ y0, ← hx, e15]
        simp only [Int.toNat_of_nonneg y0]
    · refine ⟨fun x y s => s = s1 ∧ 0 ≤ y ∧ y ≤ 4 ∧ x = bts (fun x => L (175 + 81 * x) ≠ 0) y.toNat, fun _ y _ => (4 - y).toNat, ⟨rfl, by decide, by decide, rfl⟩, ?_⟩
      rintro x y s ⟨rfl, y0, y1, hx⟩ - -
      refine ⟨fun d => ⟨?_, hI1⟩, fun d => t_M_many hm1 ⟨y0, d⟩ ?_⟩
      · rw [hr.2.2.2.1 e, hx, show y = 4 by omega]
        rfl
      · have hb := hl.rb y y0 d
        refine ⟨fun f x8 e8 => ⟨⟨rfl, by omega, by omega, ?_⟩, zRi (by omega) (by omega), by dsimp only; omega⟩, fun f x8 e8 => ⟨⟨rfl, by omega, by omega, ?_⟩, zRi (by omega) (by omega), by dsimp only; omega⟩⟩
        · rw [bts_s _ y0, e8, hx, cif_f (by omega)]
        · rw [bts_s _ y0, e8, hx, cif_t (by omega)]
    · refine ⟨fun x y s => s = s1 ∧ 0 ≤ y ∧ y ≤ L 0 * L 1 ∧ x = smI (fun p => if run L (p : Nat) = -1 then 1 else 0) y.toNat ∧ 0 ≤ x ∧ x ≤ y, fun _ y _ => (81 - y).toNat, ⟨rfl, by decide, hn.1, rfl, by decide, by decide⟩, ?_⟩
      rintro x y s ⟨rfl, y0, y1, hx, x0, x1⟩ - -
      refine t_M_places hm1 hn ⟨fun d => ⟨?_, hI1⟩, fun d => ?_⟩
      · rw [hr.2.2.2.2.2.1 e, hx, show y = L 0 * L 1 by omega]
      · have ip : inP L y := ⟨y0, d⟩
        obtain ⟨hL, hW⟩ := hl.gw ip
        have nx := smI_i (fun p => if run L (p : Nat) = -1 then 1 else 0) y0
        simp only [Int.toNat_of_nonneg y0] at nx
        refine t_M_runOf hm1 hL ip ⟨fun f x8 e8 => ⟨⟨rfl, by omega, by omega, ?_, by omega, by omega⟩, zRi (by omega) (by omega), zRi (by omega) (by omega), by dsimp only; omega⟩, fun f x8 e8 => ⟨⟨rfl, by omega, by omega, ?_, by omega, by omega⟩, zRi (by omega) (by omega), zRi (by omega) (by omega), by dsimp only; omega⟩⟩
        · rw [nx, ← hx, if_neg f, e8]
        · rw [nx, ← hx, if_pos f, e8]
  unfold q_R_count
  refine ⟨fun e => ?_, fun e => ?_, fun e => ?_, fun e => ?_, fun e => ?_, fun e => ?_, fun e => ref _ ⟨fun q => by omega, fun q => by omega, fun q => by omega, fun q => by omega, fun q => by omega, fun q => by omega, fun _ => rfl⟩⟩
  · unfold q_L_wide
    rw [hc.1]
    exact ref _ ⟨fun _ => rfl, fun q => by omega, fun q => by omega, fun q => by omega, fun q => by omega, fun q => by omega, fun q => by omega⟩
  · unfold q_L_deep
    rw [hc.1]
    exact ref _ ⟨fun q => by omega, fun _ => rfl, fun q => by omega, fun q => by omega, fun q => by omega, fun q => by omega, fun q => by omega⟩
  · unfold q_L_wetPlaces
    refine ⟨fun x y s => s = σ ∧ 0 ≤ y ∧ y ≤ L 0 * L 1 ∧ x = smI (fun p => L (94 + (p : Nat))) y.toNat ∧ 0 ≤ x ∧ x ≤ y, fun _ y _ => (81 - y).toNat, ⟨rfl, by decide, hn.1, rfl, by decide, by decide⟩, ?_⟩
    rintro x y s ⟨rfl, y0, y1, hx, x0, x1⟩ - -
    refine t_L_places hc hn ⟨fun d => ref _ ⟨fun q => by omega, fun q => by omega, fun _ => ?_, fun q => by omega, fun q => by omega, fun q => by omega, fun q => by omega⟩, fun d => ?_⟩
    · rw [hx, show y = L 0 * L 1 by omega]
    · have ip : inP L y := ⟨y0, d⟩
      obtain ⟨hL, hW⟩ := hl.gw ip
      have ib := ip.b hL
      have hw := hL.2.2.2 y ib.1 ib.2
      rw [hc.1]
      refine ⟨by omega, fun x15 e15 => ⟨⟨rfl, by omega, by omega, ?_, by omega, by omega⟩, zRi (by omega) (by omega), zRi (by omega) (by omega), by dsimp only; omega⟩⟩
      rw [smI_i _ y0, ← hx, e15]
      simp only [Int.toNat_of_nonneg y0]
  · unfold q_L_builtBits
    refine ⟨fun x y s => s = σ ∧ 0 ≤ y ∧ y ≤ 4 ∧ x = bts (fun x => L (175 + 81 * x) ≠ 0) y.toNat, fun _ y _ => (4 - y).toNat, ⟨rfl, by decide, by decide, rfl⟩, ?_⟩
    rintro x y s ⟨rfl, y0, y1, hx⟩ - -
    refine ⟨fun d => ref _ ⟨fun q => by omega, fun q => by omega, fun q => by omega, fun _ => ?_, fun q => by omega, fun q => by omega, fun q => by omega⟩, fun d => t_L_isBuilt hc ⟨y0, d⟩ (fun f => n1a (fun x8 e8 => ⟨⟨rfl, by omega, by omega, ?_⟩, zRi (by omega) (by omega), by dsimp only; omega⟩)) (fun f => n0a (fun x8 e8 => ⟨⟨rfl, by omega, by omega, ?_⟩, zRi (by omega) (by omega), by dsimp only; omega⟩))⟩
    · rw [hx, show y = 4 by omega]
      rfl
    · rw [bts_s _ y0, e8, hx, cif_t f]
    · rw [bts_s _ y0, e8, hx, cif_f (fun q => q f)]
  · unfold q_P_size
    exact ref _ ⟨fun q => by omega, fun q => by omega, fun q => by omega, fun q => by omega, fun _ => h2.1, fun q => by omega, fun q => by omega⟩
  · unfold q_S_sinks
    refine ⟨fun x y s => s = σ ∧ 0 ≤ y ∧ y ≤ L 0 * L 1 ∧ x = smI (fun p => if run L (p : Nat) = -1 then 1 else 0) y.toNat ∧ 0 ≤ x ∧ x ≤ y, fun _ y _ => (81 - y).toNat, ⟨rfl, by decide, hn.1, rfl, by decide, by decide⟩, ?_⟩
    rintro x y s ⟨rfl, y0, y1, hx, x0, x1⟩ - -
    refine t_L_places hc hn ⟨fun d => ref _ ⟨fun q => by omega, fun q => by omega, fun q => by omega, fun q => by omega, fun q => by omega, fun _ => ?_, fun q => by omega⟩, fun d => ?_⟩
    · rw [hx, show y = L 0 * L 1 by omega]
    · have ip : inP L y := ⟨y0, d⟩
      obtain ⟨hL, hW⟩ := hl.gw ip
      have nx := smI_i (fun p => if run L (p : Nat) = -1 then 1 else 0) y0
      simp only [Int.toNat_of_nonneg y0] at nx
      refine t_S_runOf hc hL ip ⟨fun f x8 e8 => ⟨⟨rfl, by omega, by omega, ?_, by omega, by omega⟩, zRi (by omega) (by omega), zRi (by omega) (by omega), by dsimp only; omega⟩, fun f x8 e8 => ⟨⟨rfl, by omega, by omega, ?_, by omega, by omega⟩, zRi (by omega) (by omega), zRi (by omega) (by omega), by dsimp only; omega⟩⟩
      · rw [nx, ← hx, if_neg f, e8]
      · rw [nx, ← hx, if_pos f, e8]
