noncomputable def mS (L : Int → Int) (a b c p : Int) : Int := adC (adC (adC 0 (Co0 L a p)) (Co0 L b p)) (Co0 L c p)
def IsMn (S : Int → Int) (n w : Int) : Prop := (0 ≤ w ∧ w < n) ∧ S w < 1000000000 ∧ (∀ q, 0 ≤ q → q < n → S w ≤ S q) ∧ (∀ q, 0 ≤ q → q < w → S w < S q)
def MtV (S : Int → Int) (n what r : Int) : Prop := (r = -1 ∧ ∀ q, 0 ≤ q → q < n → S q = 1000000000) ∨ ∃ w, IsMn S n w ∧ r = if what = 0 then w else S w
theorem IsMn_uniq {S : Int → Int} {n a b : Int} (ha : IsMn S n a) (hb : IsMn S n b) : a = b := by
  obtain ⟨a1, a2, a3, a4⟩ := ha
  obtain ⟨b1, b2, b3, b4⟩ := hb
  by_cases q : a < b
  · have x := b4 a a1.1 q
    have y := a3 b b1.1 b1.2
    omega
  · by_cases q2 : b < a
    · have x := a4 b b1.1 q2
      have y := b3 a a1.1 a1.2
      omega
    · omega
theorem MtV_uniq {S : Int → Int} {n what r s : Int} (hn : 0 < n) (hr : MtV S n what r) (hs : MtV S n what s) : r = s := by
  rcases hr with ⟨a, b⟩ | ⟨w, hw, ew⟩
  · rcases hs with ⟨c, d⟩ | ⟨w, hw, ew⟩
    · omega
    · have := b w hw.1.1 hw.1.2
      have := hw.2.1
      omega
  · rcases hs with ⟨c, d⟩ | ⟨w', hw', ew'⟩
    · have := d w hw.1.1 hw.1.2
      have := hw.2.1
      omega
    · rw [ew, ew', IsMn_uniq hw hw']
theorem pr_meet {σ : zS} {a b c d : Int} (hi : INV σ) : q_A_meet a b c d (fun r u => q_M_meet a b c d (fun v w => Agr r v w) u) σ := by
  obtain ⟨L, hc, hm, hl, -⟩ := id hi
  have hn := hl.n
  have ref : ∀ (r : Int) (u : zS), FR σ u → (¬ (inP L a ∧ inP L b ∧ inP L c) → Agr r 0 (zU u 41 0 1)) → ((inP L a ∧ inP L b ∧ inP L c) → ¬ (0 ≤ d ∧ d ≤ 1) → Agr r 0 (zU u 41 0 2)) → ((inP L a ∧ inP L b ∧ inP L c) → (0 ≤ d ∧ d ≤ 1) → (a = b ∨ b = c ∨ a = c) → Agr r 0 (zU u 41 0 3)) → ((inP L a ∧ inP L b ∧ inP L c) → (0 ≤ d ∧ d ≤ 1) → ¬ (a = b ∨ b = c ∨ a = c) → ∀ v τ, zQ [51, 59] (zU u 41 0 0) τ → MtV (mS L a b c) (L 0 * L 1) d v → Agr r v τ) → q_M_meet a b c d (fun v w => Agr r v w) u := by
    intro r u fr a1 a2 a3 a0
    have hmu := FR_MM fr hm
    have guard := gd3 (σ := u) (K := fun s => Agr r 0 s) (c1 := ¬ (inP L a ∧ inP L b ∧ inP L c)) (c2 := ¬ (0 ≤ d ∧ d ≤ 1)) (c3 := a = b ∨ b = c ∨ a = c) (body := fun σ5 => ∃ (I78 : Int → zS → Prop) (μ78 : Int → zS → Nat), (I78 0 σ5) ∧ ∀ (y8 : Int) (σ9 : zS), I78 y8 σ9 → zR y8 → (81 ≤ y8 → q_M_addsFrom a (fun σ11 => q_M_addsFrom b (fun σ12 => q_M_addsFrom c (fun σ13 => ∃ (I120 : Int → Int → zS → Prop) (μ120 : Int → Int → zS → Nat), (I120 0 1 σ13) ∧ ∀ (y14 y15 : Int) (σ16 : zS), I120 y14 y15 σ16 → zR y14 → zR y15 → q_M_places (fun r18 σ17 => (r18 ≤ y15 → (0 ≤ y14 ∧ y14 < 81) ∧ (((σ17 59 y14) ≠ 1000000000 → (d ≠ 0 → Agr r (σ17 59 y14) σ17) ∧ (d = 0 → Agr r y14 σ17)) ∧ ((σ17 59 y14) = 1000000000 → Agr r (-1) σ17))) ∧ (y15 < r18 → (0 ≤ y15 ∧ y15 < 81) ∧ ((0 ≤ y14 ∧ y14 < 81) ∧ (((σ17 59 y14) ≤ (σ17 59 y15) → I120 y14 (y15 + 1) σ17 ∧ zR (y15 + 1) ∧ μ120 y14 (y15 + 1) σ17 < μ120 y14 y15 σ16) ∧ ((σ17 59 y15) < (σ17 59 y14) → I120 y15 (y15 + 1) σ17 ∧ zR (y15 + 1) ∧ μ120 y15 (y15 + 1) σ17 < μ120 y14 y15 σ16))))) σ16) σ12) σ11) σ9) ∧ (y8 < 81 → (0 ≤ y8 ∧ y8 < 81) ∧ (∀ σ35 : zS, σ35 = zU σ9 59 y8 0 → I78 (y8 + 1) σ35 ∧ zR (y8 + 1) ∧ μ78 (y8 + 1) σ35 < μ78 y8 σ9))) a1 (fun p q => a2 (Classical.not_not.mp p) q) (fun p q s => a3 (Classical.not_not.mp p) (Classical.not_not.mp q) s) (fun p q s => ?_)
    · unfold q_M_meet
      have J : ∀ (i : inP L a → True), True := fun _ => trivial
      refine t_M_isPlace hmu hn (fun i1 => ⟨fun w s => s = u ∧ GdP (¬ (inP L a ∧ inP L b ∧ inP L c)) (¬ (0 ≤ d ∧ d ≤ 1)) (a = b ∨ b = c ∨ a = c) w, fun w s4 hj _ => guard w s4 hj, fun s => s = u ∧ ¬ (inP L a ∧ inP L b ∧ inP L c), fun s hs => ⟨hs.1, Or.inl ⟨rfl, hs.2⟩⟩, n1a (t_M_isPlace hmu hn (fun i2 => n1a (t_M_isPlace hmu hn (fun i3 => n1b (t_M_isIn (fun x y => n1b ?_) (fun x => n0b ?_))) (fun i3 => n0b ⟨rfl, fun x => i3 x.2.2⟩))) (fun i2 => n0a ⟨rfl, fun x => i2 x.2.1⟩))⟩) (fun i1 => ⟨fun w s => s = u ∧ GdP (¬ (inP L a ∧ inP L b ∧ inP L c)) (¬ (0 ≤ d ∧ d ≤ 1)) (a = b ∨ b = c ∨ a = c) w, fun w s4 hj _ => guard w s4 hj, fun s => s = u ∧ ¬ (inP L a ∧ inP L b ∧ inP L c), fun s hs => ⟨hs.1, Or.inl ⟨rfl, hs.2⟩⟩, n0a ⟨rfl, fun x => i1 x.1⟩⟩)
      · have g1 : ¬ ¬ (inP L a ∧ inP L b ∧ inP L c) := fun z => z ⟨i1, i2, i3⟩
        have g2 : ¬ ¬ (0 ≤ d ∧ d ≤ 1) := fun z => z ⟨x, y⟩
        refine ⟨a = b ∨ b = c ∨ a = c, fun j => ⟨rfl, Or.inr ⟨g1, Or.inr ⟨g2, Or.inl ⟨rfl, j⟩⟩⟩⟩, fun e => Or.inl e, fun e => ⟨fun f => Or.inr (Or.inl f), fun f => ⟨fun g => ⟨rfl, Or.inr ⟨g1, Or.inr ⟨g2, Or.inr ⟨rfl, fun z => z.elim e (fun z => z.elim f g)⟩⟩⟩⟩, fun g => Or.inr (Or.inr g)⟩⟩⟩
      · exact ⟨rfl, Or.inr ⟨fun z => z ⟨i1, i2, i3⟩, Or.inl ⟨rfl, x⟩⟩⟩
    · have hp := Classical.not_not.mp p
      have hd := Classical.not_not.mp q
      obtain ⟨hL, hW⟩ := hl.gw hp.1
      have hgn := hL.n
      have hm5 : MM L (-1) (-1) (zU u 41 0 0) := MM_F hmu (by decide)
      refine ⟨fun y s => zQ [59] (zU u 41 0 0) s ∧ 0 ≤ y ∧ y ≤ 81 ∧ ∀ i, 0 ≤ i → i < y → s 59 i = 0, fun y _ => (81 - y).toNat, ⟨zQ_r _ _, by decide, by decide, fun i x y => by omega⟩, ?_⟩
      rintro y t ⟨hq, y0, y1, hI⟩ -
      refine ⟨fun e => ?_, fun e => ⟨⟨y0, e⟩, fun s1 e1 => ⟨⟨by rw [e1]; exact zQ_t hq (zQ_U (by decide)), by omega, by omega, fun i i0 i1 => ?_⟩, zRi (by omega) (by omega), by dsimp only; omega⟩⟩⟩
      · have z0 : ∀ p, inP L p → t 59 p = 0 := fun p ip => hI p ip.1 (by have := (ip.b hL).2; omega)
        refine t_M_addsFrom (N := 0) (MM_Q hm5 hq (by decide)) hL hW hp.1 (by decide) (fun p ip => Or.inr (by rw [z0 p ip]; decide)) (fun τ1 k1 f1 => t_M_addsFrom (N := 976562) (MM_Q (MM_Q hm5 hq (by decide)) k1 (by decide)) hL hW hp.2.1 (by decide) (fun p ip => by have := (f1 p ip).2; omega) (fun τ2 k2 f2 => t_M_addsFrom (N := 1953124) (MM_Q (MM_Q (MM_Q hm5 hq (by decide)) k1 (by decide)) k2 (by decide)) hL hW hp.2.2 (by decide) (fun p ip => by have := (f2 p ip).2; omega) (fun τ3 k3 f3 => ?_)))
        have qa : zQ [51, 59] (zU u 41 0 0) τ3 := zQ_t (zQ_m hq (by decide)) (zQ_t k1 (zQ_t k2 k3))
        have hm3 : MM L (-1) (-1) τ3 := MM_Q hm5 qa (by decide)
        have S : ∀ p, inP L p → τ3 59 p = mS L a b c p ∧ (τ3 59 p = 1000000000 ∨ (0 ≤ τ3 59 p ∧ τ3 59 p ≤ 2929686)) := fun p ip => by
          refine ⟨?_, by have := (f3 p ip).2; omega⟩
          rw [(f3 p ip).1, (f2 p ip).1, (f1 p ip).1, z0 p ip]
          rfl
        refine ⟨fun w y s => s = τ3 ∧ 1 ≤ y ∧ y ≤ L 0 * L 1 ∧ (0 ≤ w ∧ w < y) ∧ (∀ q, 0 ≤ q → q < y → mS L a b c w ≤ mS L a b c q) ∧ (∀ q, 0 ≤ q → q < w → mS L a b c w < mS L a b c q), fun _ y _ => (81 - y).toNat, ⟨rfl, by decide, by omega, by decide, fun q q0 q1 => by rw [show q = 0 by omega]; exact Int.le_refl _, fun q q0 q1 => by omega⟩, ?_⟩
        rintro w y s ⟨rfl, y0, y1, hw, hI1, hI2⟩ - -
        have iw : inP L w := ⟨hw.1, by omega⟩
        have iwb := iw.b hL
        have Sw := S w iw
        refine t_M_places hm3 (by omega) ⟨fun f => ⟨iwb, fun nf => ?_, fun ff => a0 hp hd ‹_› _ s qa (Or.inl ⟨rfl, fun q q0 q1 => ?_⟩)⟩, fun f => ?_⟩
        · have mn : IsMn (mS L a b c) (L 0 * L 1) w := ⟨⟨hw.1, by omega⟩, by rw [← Sw.1]; omega, fun q q0 q1 => hI1 q q0 (by omega), hI2⟩
          exact ⟨fun e => a0 hp hd ‹_› _ s qa (Or.inr ⟨w, mn, by rw [if_neg e, Sw.1]⟩), fun e => a0 hp hd ‹_› _ s qa (Or.inr ⟨w, mn, by rw [if_pos e]⟩)⟩
        · have h1 := hI1 q q0 (by omega)
          have h2 := S q ⟨q0, q1⟩
          rw [← Sw.1, ← h2.1] at h1
          rw [← h2.1]
          omega
        · have iy : inP L y := ⟨by omega, f⟩
          have Sy := S y iy
          have iyb := iy.b hL
          refine ⟨iyb, iwb, fun g => ⟨⟨rfl, by omega, by omega, by omega, fun q q0 q1 => ?_, hI2⟩, zRi (by omega) (by omega), by dsimp only; omega⟩, fun g => ⟨⟨rfl, by omega, by omega, by omega, fun q q0 q1 => ?_, fun q q0 q1 => ?_⟩, zRi (by omega) (by omega), by dsimp only; omega⟩⟩
          · by_cases e : q = y
            · rw [e, ← Sw.1, ← Sy.1]; exact g
            · exact hI1 q q0 (by omega)
          · by_cases e : q = y
            · rw [e]; exact Int.le_refl _
            · have := hI1 q q0 (by omega)
              rw [← Sw.1] at this
              rw [← Sy.1]
              omega
          · have := hI1 q q0 (by omega)
            rw [← Sw.1] at this
            rw [← Sy.1]
            omega
      · rw [e1, zU_if]
        by_cases g : i = y
        · rw [if_pos g]
        · rw [if_neg g]; exact hI i i0 (by omega)
  unfold q_A_meet q_R_meet
  have x1 : ¬ (inP L a ∧ inP L b ∧ inP L c) → q_M_meet a b c d (fun v w => Agr 1 v w) σ := fun x => ref 1 σ (FR_r σ) (fun _ => Agr_x hi (by decide)) (fun y => absurd y x) (fun y => absurd y x) (fun y => absurd y x)
  have x3 : (inP L a ∧ inP L b ∧ inP L c) → (0 ≤ d ∧ d ≤ 1) → (a = b ∨ b = c ∨ a = c) → q_M_meet a b c d (fun v w => Agr 3 v w) σ := fun x y z => ref 3 σ (FR_r σ) (fun w => absurd x w) (fun _ w => absurd y w) (fun _ _ _ => Agr_x hi (by decide)) (fun _ _ w => absurd z w)
  refine t_R_needPair hc hn (fun i1 i2 => t_R_needPlace hc hn (fun i3 => t_R_needAnswer (fun d0 d1 => t_R_needUnlike (fun n1 => t_R_needUnlike (fun n2 => t_R_needUnlike (fun n3 => ?_) (fun e => Or.inr (Or.inr ⟨rfl, x3 ⟨i1, i2, i3⟩ ⟨d0, by omega⟩ (Or.inr (Or.inr e))⟩))) (fun e => Or.inr (Or.inr ⟨rfl, x3 ⟨i1, i2, i3⟩ ⟨d0, by omega⟩ (Or.inr (Or.inl e))⟩))) (fun e => Or.inr (Or.inr ⟨rfl, x3 ⟨i1, i2, i3⟩ ⟨d0, by omega⟩ (Or.inl e)⟩))) (fun nk => Or.inr (Or.inl ⟨rfl, ref 2 σ (FR_r σ) (fun w => absurd ⟨i1, i2, i3⟩ w) (fun _ _ => Agr_x hi (by decide)) (fun _ w => absurd ⟨w.1, by omega⟩ nk) (fun _ w => absurd ⟨w.1, by omega⟩ nk)⟩))) (fun i3 => Or.inl ⟨rfl, x1 (fun x => i3 x.2.2)⟩)) (fun ni => Or.inl ⟨rfl, x1 (fun x => ni ⟨x.1, x.2.1⟩)⟩)
  obtain ⟨hL, hW⟩ := hl.gw i1
  have hgn := hL.n
  unfold q_N_clearSums
  refine t_J_fill2 (M := 81) rfl ?_
  generalize hs7 : zFill σ 31 0 81 0 = s7
  have q7 : zQ [31] σ s7 := by rw [← hs7]; exact zQ_F (by decide)
  have z0 : ∀ p, inP L p → s7 31 p = 0 := fun p ip => by rw [← hs7]; exact zFill_at (ip.b hL).1 (ip.b hL).2
  have hc7 := CC_Q hc q7 (by decide)
  refine t_N_addCosts (N := 0) hc7 hL hW i1 (by decide) (fun p ip => Or.inr (by rw [z0 p ip]; decide)) (fun τ1 k1 f1 => t_N_addCosts (N := 976562) (CC_Q hc7 k1 (by decide)) hL hW i2 (by decide) (fun p ip => by have := (f1 p ip).2; omega) (fun τ2 k2 f2 => t_N_addCosts (N := 1953124) (CC_Q (CC_Q hc7 k1 (by decide)) k2 (by decide)) hL hW i3 (by decide) (fun p ip => by have := (f2 p ip).2; omega) (fun τ3 k3 f3 => ?_)))
  have qa : zQ [12, 13, 15, 16, 17, 18, 19, 20, 21, 22, 23, 24, 31] σ τ3 := zQ_t (zQ_m q7 (by decide)) (zQ_t k1 (zQ_t k2 k3))
  have hc3 := CC_Q hc qa (by decide)
  have S : ∀ p, inP L p → τ3 31 p = mS L a b c p ∧ (τ3 31 p = 1000000000 ∨ (0 ≤ τ3 31 p ∧ τ3 31 p ≤ 2929686)) := fun p ip => by
    refine ⟨?_, by have := (f3 p ip).2; omega⟩
    rw [(f3 p ip).1, (f2 p ip).1, (f1 p ip).1, z0 p ip]
    rfl
  have val : ∀ v, MtV (mS L a b c) (L 0 * L 1) d v → q_M_meet a b c d (fun v w => Agr 0 v w) (zU τ3 64 0 v) := by
    intro v hv
    have fr : FR σ (zU τ3 64 0 v) := FR_t (FR_Q qa (by decide) (by decide)) (FR_64 v)
    refine ref 0 _ fr (fun w => absurd ⟨i1, i2, i3⟩ w) (fun _ w => absurd ⟨d0, by omega⟩ w) (fun _ _ w => absurd w (fun z => z.elim n1 (fun z => z.elim n2 n3))) (fun _ _ _ v' τ q' hv' => ?_)
    have e : v' = v := MtV_uniq (by omega) hv' hv
    rw [e]
    exact Agr_0 hi (FR_t (FR_t fr (FR_F (by decide))) (FR_Q q' (by decide) (by decide))) (by rw [q' 41 (by decide), zU_s]) (by rw [q' 64 (by decide), zU_o (by decide), zU_s])
  unfold q_N_leastSumPlace
  refine ⟨fun w y s => s = τ3 ∧ 0 ≤ y ∧ y ≤ L 0 * L 1 ∧ ((w = -1 ∧ ∀ q, 0 ≤ q → q < y → mS L a b c q = 1000000000) ∨ IsMn (mS L a b c) y w), fun _ y _ => (81 - y).toNat, ⟨rfl, by decide, by omega, Or.inl ⟨rfl, fun q q0 q1 => by omega⟩⟩, ?_⟩
  rintro w y s ⟨rfl, y0, y1, hI⟩ - -
  refine t_L_places hc3 (by omega) ⟨fun f => ⟨fun e => val _ (Or.inl ⟨e, ?_⟩), fun e => ⟨fun g => ?_, fun g => val _ (Or.inr ⟨w, ?_, by rw [if_pos g]⟩)⟩⟩, fun f => ?_⟩
  · rcases hI with q | q
    · intro p p0 p1
      exact q.2 p p0 (by omega)
    · have := q.1.1
      omega
  · have mn := hI.resolve_left (fun q => e q.1)
    rw [show y = L 0 * L 1 by omega] at mn
    have iw : inP L w := mn.1
    unfold q_N_sumAt
    exact ⟨iw.b hL, val _ (Or.inr ⟨w, mn, by rw [if_neg g]; exact (S w iw).1⟩)⟩
  · have mn := hI.resolve_left (fun q => e q.1)
    rw [show y = L 0 * L 1 by omega] at mn
    exact mn
  · have iy : inP L y := ⟨y0, f⟩
    have Sy := S y iy
    have iyb := iy.b hL
    refine ⟨iyb, fun g => ⟨⟨rfl, by omega, by omega, ?_⟩, zRi (by omega) (by omega), by dsimp only; omega⟩, fun g => ⟨fun e => ⟨⟨rfl, by omega, by omega, Or.inr ?_⟩, zRi (by omega) (by omega), by dsimp only; omega⟩, fun e => ?_⟩⟩
    · have ySF : mS L a b c y = 1000000000 := by rw [← Sy.1]; omega
      rcases hI with ⟨q1, q2⟩ | ⟨q1, q2, q3, q4⟩
      · refine Or.inl ⟨q1, fun p p0 p1 => ?_⟩
        by_cases z : p = y
        · rw [z]; exact ySF
        · exact q2 p p0 (by omega)
      · refine Or.inr ⟨⟨q1.1, by omega⟩, q2, fun p p0 p1 => ?_, q4⟩
        by_cases z : p = y
        · rw [z, ySF]; omega
        · exact q3 p p0 (by omega)
    · have q := hI.resolve_right (fun q => by have := q.1.1; omega)
      refine ⟨⟨y0, by omega⟩, by rw [← Sy.1]; exact g, fun p p0 p1 => ?_, fun p p0 p1 => ?_⟩
      · by_cases z : p = y
        · rw [z]; exact Int.le_refl _
        · rw [q.2 p p0 (by omega), ← Sy.1]; omega
      · rw [q.2 p p0 (by omega), ← Sy.1]; exact g
    · obtain ⟨q1, q2, q3, q4⟩ := hI.resolve_left (fun q => e q.1)
      have iw : inP L w := ⟨q1.1, by omega⟩
      have Sw := S w iw
      refine ⟨iw.b hL, fun g2 => ⟨⟨rfl, by omega, by omega, Or.inr ⟨⟨q1.1, by omega⟩, q2, fun p p0 p1 => ?_, q4⟩⟩, zRi (by omega) (by omega), by dsimp only; omega⟩, fun g2 => ⟨⟨rfl, by omega, by omega, Or.inr ⟨⟨y0, by omega⟩, by rw [← Sy.1]; exact g, fun p p0 p1 => ?_, fun p p0 p1 => ?_⟩⟩, zRi (by omega) (by omega), by dsimp only; omega⟩⟩
      · by_cases z : p = y
        · rw [z, ← Sw.1, ← Sy.1]; exact g2
        · exact q3 p p0 (by omega)
      · by_cases z : p = y
        · rw [z]; exact Int.le_refl _
        · have := q3 p p0 (by omega)
          rw [← Sw.1] at this
          rw [← Sy.1]
          omega
      · have := q3 p p0 (by omega)
        rw [← Sw.1] at this
        rw [← Sy.1]
        omega
