/-! ===== level agrees ===== -/
theorem stO_lo {L f : Int → Int} {r n j : Int} (r0 : 0 ≤ r) (hj : j < 216) : stO L r f n j = L j := by
  unfold stO
  rw [if_neg (by omega)]
theorem LW_stO {L f : Int → Int} {r n : Int} (h : LW L) (hL : GW L) (r0 : 0 ≤ r) (r1 : r < 4) (hn : n ≤ 40) (hf : ∀ k, 0 ≤ k → k < n → -3 ≤ f k ∧ f k ≤ 3) : LW (stO L r f n) := by
  have o : ∀ j, j < 175 → stO L r f n j = L j := fun j hj => stO_lo r0 (by omega)
  have t := h.tw
  have ip : ∀ p, inP (stO L r f n) p ↔ inP L p := fun p => by unfold inP; rw [o 0 (by omega), o 1 (by omega)]
  have eb : ∀ p g, bs (stO L r f n) p g = bs L p g := fun p g => by show bes _ _ _ _ = bes _ _ _ _; rw [o 0 (by omega), o 1 (by omega)]
  refine LW_mk h (o 0 (by omega)) (o 1 (by omega)) ?_ (fun hL q q0 q1 => by rw [o _ (by omega)]; exact hL.2.2.1 q q0 q1) (fun hL q q0 q1 => by rw [o _ (by omega)]; exact hL.2.2.2 q q0 q1) (fun _ hW q q0 q1 => ?_) (fun q q0 q1 z _ => absurd z (by have := hL.1.1; omega))
  · unfold TW at t ⊢
    rw [o 2 (by omega), o 3 (by omega), o 4 (by omega), o 5 (by omega), o 6 (by omega), o 7 (by omega), o 8 (by omega), o 9 (by omega), o 10 (by omega), o 11 (by omega), o 12 (by omega)]
    exact t
  · by_cases e : q = r
    · subst e
      have en : stO L q f n (175 + 81 * q) = L (175 + 81 * q) := by
        unfold stO
        rw [if_neg (by omega)]
      have ep : ∀ k, 0 ≤ k → k < 40 → stO L q f n (176 + 81 * q + k) = L (176 + 81 * q + k) := fun k k0 k1 => by
        unfold stO
        rw [if_neg (by omega)]
      have eo : ∀ k, 0 ≤ k → k < n → stO L q f n (216 + 81 * q + k) = f k := fun k k0 k1 => by
        unfold stO
        rw [if_pos (by omega)]
        congr 1
        omega
      have eo2 : ∀ k, n ≤ k → stO L q f n (216 + 81 * q + k) = L (216 + 81 * q + k) := fun k k0 => by
        unfold stO
        rw [if_neg (by omega)]
      rcases hW q q0 q1 with z | ⟨a, b, c, d⟩
      · exact Or.inl (by rw [en]; exact z)
      · refine Or.inr ⟨by rw [en]; exact a, by rw [en]; exact b, fun k k0 k1 => ?_, fun k k0 k1 => ?_⟩
        · rw [en] at k1
          have ck := c k k0 k1
          rw [ep k k0 (by omega), ip]
          refine ⟨ck.1, ?_⟩
          by_cases w : k < n
          · rw [eo k k0 w]; exact hf k k0 w
          · rw [eo2 k (by omega)]; exact ck.2
        · rw [en] at k1
          obtain ⟨g, g0, g1, g2⟩ := d k k0 k1
          exact ⟨g, g0, g1, by rw [ep k k0 (by omega), ep (k + 1) (by omega) (by omega), eb]; exact g2⟩
    · exact RW_congr q0 q1 (o 0 (by omega)) (o 1 (by omega)) (fun j j0 j1 => by
        unfold stO
        rw [if_neg (by omega)]) (hW q q0 q1)
theorem pr_level {σ : zS} {r n : Int} (hi : INV σ) : q_A_level r n (fun x u => q_M_level r n (fun v w => Agr x v w) u) σ := by
  obtain ⟨L, hc, hm, hl, t1, t2, t3, t4, t5⟩ := id hi
  have hu3 : 0 ≤ σ 41 3 ∧ σ 41 3 ≤ 8 := by have := t2.1; have := t2.2.1; omega
  have ref : ∀ (x o0 : Int) (u : zS), MM L (-1) (-1) u → (0 ≤ u 41 3 ∧ u 41 3 ≤ 8) → (¬ (0 ≤ r ∧ r < 4) → Agr x 0 (zU u 41 0 1)) → ((0 ≤ r ∧ r < 4) → ¬ (0 ≤ n ∧ n ≤ 99) → Agr x 0 (zU u 41 0 2)) → ((0 ≤ r ∧ r < 4) → (0 ≤ n ∧ n ≤ 99) → L (175 + 81 * r) = 0 → Agr x 0 (zU u 41 0 3)) → ((0 ≤ r ∧ r < 4) → (0 ≤ n ∧ n ≤ 99) → L (175 + 81 * r) ≠ 0 → ∀ τ, zQ [55] (zU u 41 0 0) τ → (Gt L r n = 1000000000 → Agr x 0 (zU τ 41 0 3)) ∧ (Gt L r n < 1000000000 → Am (Gr L r n) (-L 9) (L 9) o0 ∧ ∀ w0 w2, zQ [41, 43] (zU τ 41 0 0) w0 → (∀ k, k ≠ 3 → w0 41 k = (zU τ 41 0 0) 41 k) → RemM L (zU τ 41 0 0) w0 → zQ [42, 56] w0 w2 → w2 42 = stO L r (czo L r n o0) (L (175 + 81 * r)) → Agr x (Gt L r n) w2)) → q_M_level r n (fun v w => Agr x v w) u := by
    intro x o0 u hmu hu a1 a2 a3 a0
    unfold q_M_level
    refine t_M_isRoad (fun b0 b1 => ⟨fun w s => s = u ∧ GdP (¬ (0 ≤ r ∧ r < 4)) (¬ (0 ≤ n ∧ n ≤ 99)) (L (175 + 81 * r) = 0) w, fun w s4 hj _ => gd3 (K := fun s => Agr x 0 s) a1 (fun a b => a2 (Classical.not_not.mp a) b) (fun a b c => a3 (Classical.not_not.mp a) (Classical.not_not.mp b) c) (fun a b c => ?_) w s4 hj, n1b (t_M_isIn (fun x y => n1b (t_M_many hmu ⟨b0, b1⟩ ?_)) (fun x => n0b ?_))⟩) (fun b => ⟨fun w s => s = u ∧ GdP (¬ (0 ≤ r ∧ r < 4)) (¬ (0 ≤ n ∧ n ≤ 99)) (L (175 + 81 * r) = 0) w, fun w s4 hj _ => gd3 (K := fun s => Agr x 0 s) a1 (fun a b => a2 (Classical.not_not.mp a) b) (fun a b c => a3 (Classical.not_not.mp a) (Classical.not_not.mp b) c) (fun a _ _ => absurd b a) w s4 hj, n0b ⟨rfl, Or.inl ⟨rfl, b⟩⟩⟩)
    · have hr : 0 ≤ r ∧ r < 4 := ⟨b0, b1⟩
      have hd := Classical.not_not.mp b
      obtain ⟨hL, hW⟩ := hl.rd b0 b1 c
      have wr := hW r b0 b1
      have hRW := wr.resolve_left c
      have hm5 : MM L (-1) (-1) (zU u 41 0 0) := MM_F hmu (by decide)
      refine t_M_grading hm5 hL hr wr c hd (fun τ q hE => ?_)
      obtain ⟨f1, f2⟩ := a0 hr hd c τ q
      have hmτ : MM L (-1) (-1) τ := MM_Q hm5 q (by decide)
      have le : Gt L r n ≤ 1000000000 := gm_le _ _ _
      refine ⟨fun w => (w = 0 ∧ Gt L r n < 1000000000) ∨ (w = 3 ∧ Gt L r n = 1000000000), fun w hw _ s11 e11 => ?_, fun ne => Or.inl ⟨rfl, by omega⟩, fun ee => Or.inr ⟨rfl, ee⟩⟩
      have z11 : s11 41 0 = w := by rw [e11, zU_s]
      rw [z11]
      refine ⟨fun y => ?_, fun y => ?_⟩
      · obtain ⟨ew0, hG⟩ := hw.resolve_right (fun q => by omega)
        obtain ⟨hA, fin⟩ := f2 hG
        rw [ew0] at e11
        have hm11 : MM L (-1) (-1) s11 := by rw [e11]; exact MM_F hmτ (by decide)
        refine t_M_remembers (L := L) hm11.1 (by rw [e11, zU_k (by decide), q 41 (by decide), zU_k (by decide)]; exact hu) (fun w0 qr fr hR => ?_)
        rw [e11] at qr fr hR
        have w42 : w0 42 = L := by rw [qr 42 (by decide), zU_row (by decide)]; exact hmτ.1
        have hm0 : MM L (-1) (-1) w0 := by
          refine ⟨w42, fun g g0 g1 => ?_, ?_, ?_⟩
          · rw [qr 47 (by decide), qr 48 (by decide), zU_row (by decide), zU_row (by decide)]; exact hmτ.2.1 g g0 g1
          · rw [fr 28 (by decide), zU_k (by decide)]; exact hmτ.2.2.1
          · rw [fr 29 (by decide), zU_k (by decide)]; exact hmτ.2.2.2
        have hE0 : EB L r n (-1) 0 0 w0 := by
          intro k o m
          rw [qr 55 (by decide), zU_row (by decide)]
          exact hE k o m
        refine t_M_chooses hm0 hL hr wr c hd hE0 hG hA (fun τc qc hcz => ?_)
        refine ⟨fun y s => zQ [42] τc s ∧ 0 ≤ y ∧ y ≤ L (175 + 81 * r) ∧ s 42 = stO L r (czo L r n o0) y, fun y _ => (40 - y).toNat, ⟨zQ_r _ _, by decide, by omega, by rw [stO_0, qc 42 (by decide)]; exact w42⟩, ?_⟩
        rintro y s ⟨hq, y0, y1, hI⟩ -
        unfold q_M_many
        have en : s 42 (175 + 81 * r) = L (175 + 81 * r) := by
          rw [hI]
          unfold stO
          rw [if_neg (by omega)]
        rw [en]
        refine ⟨by omega, fun d2 => ?_, fun d2 => ⟨by omega, by omega, fun s1 e1 => ⟨⟨by rw [e1]; exact zQ_t hq (zQ_U (by decide)), by omega, by omega, ?_⟩, zRi (by omega) (by omega), by dsimp only; omega⟩⟩⟩
        · refine fin w0 s qr fr hR (zQ_t (zQ_m qc (by decide)) (zQ_m hq (by decide))) ?_
          rw [hI, show y = L (175 + 81 * r) by omega]
        · rw [e1, zU_up, hI, hq 56 (by decide), hcz y y0 d2, show 175 + 81 * r + 41 + y = 216 + 81 * r + y by omega]
          exact stO_s y0
      · obtain ⟨ew3, hG⟩ := hw.resolve_left (fun q => by omega)
        rw [e11, ew3]
        exact f1 hG
    · have g1 : ¬ ¬ (0 ≤ r ∧ r < 4) := fun z => z ⟨b0, b1⟩
      have g2 : ¬ ¬ (0 ≤ n ∧ n ≤ 99) := fun z => z ⟨x, y⟩
      exact ⟨fun e => ⟨rfl, Or.inr ⟨g1, Or.inr ⟨g2, Or.inr ⟨rfl, e⟩⟩⟩⟩, fun e => ⟨rfl, Or.inr ⟨g1, Or.inr ⟨g2, Or.inl ⟨rfl, e⟩⟩⟩⟩⟩
    · exact ⟨rfl, Or.inr ⟨fun z => z ⟨b0, b1⟩, Or.inl ⟨rfl, x⟩⟩⟩
  unfold q_A_level q_R_level
  refine t_R_needRoad (fun b0 b1 => t_R_needNumber (fun n0 n1 => t_R_needBuilt hc ⟨b0, b1⟩ (fun nz => ?_) (fun z => Or.inr (Or.inr ⟨rfl, ref 3 0 σ hm hu3 (fun w => absurd ⟨b0, b1⟩ w) (fun _ w => absurd ⟨n0, n1⟩ w) (fun _ _ _ => Agr_x hi (by decide)) (fun _ _ w => absurd z w)⟩))) (fun nn => Or.inr (Or.inl ⟨rfl, ref 2 0 σ hm hu3 (fun w => absurd ⟨b0, b1⟩ w) (fun _ _ => Agr_x hi (by decide)) (fun _ w => absurd w nn) (fun _ w => absurd w nn)⟩))) (fun b => Or.inl ⟨rfl, ref 1 0 σ hm hu3 (fun _ => Agr_x hi (by decide)) (fun w => absurd w b) (fun w => absurd w b) (fun w => absurd w b)⟩)
  have hr : 0 ≤ r ∧ r < 4 := ⟨b0, b1⟩
  obtain ⟨hL, hW⟩ := hl.rd b0 b1 nz
  have wr := hW r b0 b1
  have hRW := wr.resolve_left nz
  have h9 := hL.2.1
  have le : Gt L r n ≤ 1000000000 := gm_le _ _ _
  have ge : 0 ≤ Gt L r n := (Gt_b hL hRW.2.1).1
  refine t_G_leastEarth hc hL hr wr nz ⟨n0, n1⟩ (fun u0 q0 h37 hA => ?_)
  have fr0 : FR σ u0 := FR_Q q0 (by decide) (by decide)
  have hi0 : INV u0 := INV_FR fr0 hi
  have hc0 := FR_CC fr0 hc
  have hm0 := FR_MM fr0 hm
  have g41 : u0 41 = σ 41 := q0 41 (by decide)
  by_cases hG : Gt L r n < 1000000000
  · rw [if_pos hG]
    refine ⟨fun _ => ?_, fun e => by omega⟩
    unfold q_R_remember
    refine t_P_remember hc0.1 (by rw [q0 9 (by decide)]; exact t2.2.1) (by rw [q0 9 (by decide)]; exact t2.2.2.1) (fun u1 q1 r1 => ?_)
    refine t_G_settle (L := L) (rule := n) (o0 := u0 35 3) hL hr hRW.1 hRW.2.1 (by rw [q1 4 (by decide)]; exact hc0.1) (fun k y a1 a2 a3 a4 => by rw [q1 37 (by decide)]; exact h37 k y a1 a2 a3 a4) (by rw [q1 35 (by decide)]) hG (hA hG) (fun u2 q2 h4 => ?_)
    have hmu : MM L (-1) (-1) (zU u2 64 0 (Gt L r n)) := MM_U (MM_Q (MM_Q hm0 q1 (by decide)) q2 (by decide)) (by decide)
    have k41 : u2 41 = σ 41 := by rw [q2 41 (by decide), q1 41 (by decide), g41]
    refine ref 0 (u0 35 3) _ hmu (by rw [zU_row (by decide), k41]; exact hu3) (fun w => absurd hr w) (fun _ w => absurd ⟨n0, n1⟩ w) (fun _ _ w => absurd w nz) (fun _ _ _ τ q => ⟨fun e => by omega, fun _ => ⟨hA hG, fun w0 w2 qr fr hR hq2 h42 => ⟨?_, fun _ => ?_, ?_⟩⟩⟩)
    · rw [hq2 41 (by decide), fr 0 (by decide), zU_s]
    · rw [hq2 64 (by decide), qr 64 (by decide), zU_o (by decide), q 64 (by decide), zU_o (by decide), zU_s]
    · refine chg2 (L' := stO L r (czo L r n (u0 35 3)) (L (175 + 81 * r))) hi0 hc0 hm0 hl (LW_stO hl hL b0 b1 hRW.2.1 (fun k k0 k1 => ?_)) (stO_lo b0 (by omega)) (stO_lo b0 (by omega)) q1 r1 ?_ (fun k hk => ?_) ?_ qr fr hR hq2 h42
      · have := (cz_at hL hRW.1 hRW.2.1 hG (hA hG) k0 k1).1
        omega
      · exact zQ_t (zQ_t (zQ_t (zQ_t (zQ_m q2 (by decide)) (zQ_U (by decide))) (zQ_U (by decide))) (zQ_m q (by decide))) (zQ_U (by decide))
      · have hk0 : k ≠ 0 := by revert hk; revert k; decide
        rw [zU_k hk0, q 41 (by decide), zU_k hk0, zU_row (by decide), k41, g41]
      · rw [zU_row (by decide), q 4 (by decide), zU_row (by decide), zU_row (by decide)]
        exact h4
  · rw [if_neg hG]
    refine ⟨fun e => absurd rfl e, fun _ => Or.inr (Or.inr ⟨rfl, ?_⟩)⟩
    refine ref 3 0 u0 hm0 (by rw [g41]; exact hu3) (fun w => absurd hr w) (fun _ w => absurd ⟨n0, n1⟩ w) (fun _ _ w => absurd w nz) (fun _ _ _ τ q => ⟨fun e => ?_, fun e => absurd e hG⟩)
    exact Agr_x (INV_FR (FR_t (FR_F (by decide)) (FR_Q q (by decide) (by decide))) hi0) (by decide)
