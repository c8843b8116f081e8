/-! ===== the least earth; earth agrees ===== -/
section TL
variable {σ : zS} {L : Int → Int} {r rule k : Int}
theorem Gr_Cv (b : Int) : Cv L r rule 0 b b = Gr L r rule b := by
  unfold Cv Gr
  rw [show (L (175 + 81 * r) - 1 - 0).toNat = (L (175 + 81 * r) - 1).toNat by omega, Int.add_comm (eoV L b)]
theorem bd_0 (hL : GW L) (h1 : 2 ≤ L (175 + 81 * r)) (h2 : L (175 + 81 * r) ≤ 40) : bdF L r 0 = L 9 := by
  have h9 := hL.2.1
  have b1 := bd_or hL r 0
  omega
theorem t_G_leastEarth {K : Int → zS → Prop} (hc : CC L σ) (hL : GW L) (hr : 0 ≤ r ∧ r < 4) (hw : RW L r) (nz : L (175 + 81 * r) ≠ 0) (hrl : 0 ≤ rule ∧ rule ≤ 99) (h : ∀ τ, zQ [35, 36, 37] σ τ → W37 L r rule 0 τ → (Gt L r rule < 1000000000 → Am (Gr L r rule) (-L 9) (L 9) (τ 35 3)) → K (if Gt L r rule < 1000000000 then Gt L r rule else -1) τ) : q_G_leastEarth r rule K σ := by
  have hRW := hw.resolve_left nz
  have h9 := hL.2.1
  have hb0 := bd_0 (r := r) hL (by omega) (by omega)
  unfold q_G_leastEarth
  refine t_L_value (v := 9) hc (by decide) rfl (fun s3 e3 => ?_)
  have q3 : zQ [35, 36, 37] σ s3 := by rw [e3]; exact zQ_U (by decide)
  have f3 : s3 35 4 = L 9 := by rw [e3, zU_s]
  refine t_L_roadSize (CC_Q hc q3 (by decide)) hr (fun x6 e6 => ?_)
  refine ⟨fun k s => zQ [35, 36, 37] σ s ∧ s 35 4 = L 9 ∧ -1 ≤ k ∧ k ≤ L (175 + 81 * r) - 1 ∧ (k + 1 < L (175 + 81 * r) → C36 L r rule (k + 1) s) ∧ W37 L r rule (k + 1) s, fun k _ => (k + 1).toNat, ⟨⟨q3, f3, by omega, by omega, fun z => by omega, fun k' y a b => by omega⟩, zRi (by omega) (by omega)⟩, ?_⟩
  rintro k s8 ⟨hq, h4, k0, k1, h36, h37⟩ -
  refine ⟨fun c => ?_, fun c => t_G_fillPlace (CC_Q hc hq (by decide)) hL hr hw nz hrl c (by omega) h4 h36 h37 (fun τ qt t4 t36 t37 => ⟨⟨zQ_t hq qt, t4, by omega, by omega, fun _ => by rw [show k + -1 + 1 = k by omega]; exact t36, by rw [show k + -1 + 1 = k by omega]; exact t37⟩, zRi (by omega) (by omega), by dsimp only; omega⟩)⟩
  have ek : k + 1 = 0 := by omega
  rw [ek] at h36 h37
  have c36 := h36 (by omega)
  rw [h4]
  intro x12 e12
  refine ⟨fun best b s => zQ [35] s8 s ∧ s 35 4 = L 9 ∧ -L 9 ≤ b ∧ b ≤ L 9 + 1 ∧ best = gm (Gr L r rule) (-L 9) (b - -L 9).toNat ∧ (best < 1000000000 → -L 9 ≤ s 35 3 ∧ s 35 3 < b ∧ Gr L r rule (s 35 3) = best ∧ (∀ x, -L 9 ≤ x → x < b → best ≤ Gr L r rule x) ∧ ∀ x, -L 9 ≤ x → x < s 35 3 → best < Gr L r rule x), fun _ b _ => (L 9 + 1 - b).toNat, ⟨⟨zQ_r _ _, h4, by omega, by omega, by rw [e12]; exact (gm_0 _ _).symm, fun z => by omega⟩, zRi (by omega) (by omega)⟩, ?_⟩
  rintro best b s ⟨qs, s4, b0, b1, eb, hI⟩ - -
  have gl := gm_le (Gr L r rule) (-L 9) (b - -L 9).toNat
  have gs := gm_s (Gr L r rule) (-L 9) b0
  have gmn := (gm_min (Gr L r rule) (-L 9) (b - -L 9).toNat).1
  rw [← eb] at gl gs gmn
  rw [s4]
  refine ⟨fun c2 => ?_, fun c2 => t_G_cell (by omega) (by omega) (by omega) ⟨by unfold cl36; omega, fun x24 e24 => ?_⟩⟩
  · have eG : best = Gt L r rule := by
      rw [eb, show (b - -L 9).toNat = (2 * L 9 + 1).toNat by omega]
      rfl
    have fin := h s (zQ_t hq (zQ_m qs (by decide))) (fun k' y a1 a2 a3 a4 => by rw [qs 37 (by decide)]; exact h37 k' y a1 a2 a3 a4) (fun z => by
      rw [← eG] at z
      obtain ⟨i1, i2, i3, i4, i5⟩ := hI z
      exact Or.inr ⟨i1, by omega, by omega, fun x x0 x1 => by have := i4 x x0 (by omega); omega, fun x x0 x1 => by have := i5 x x0 x1; omega⟩)
    rw [← eG] at fin
    refine ⟨fun z => ?_, fun z => ?_⟩
    · rw [if_pos z] at fin
      exact fin
    · rw [if_neg (by omega)] at fin
      exact fin
  · rw [qs 36 (by decide), c36 b b (by omega) c2 (by omega) (by omega), Gr_Cv] at e24
    have gmx : ∀ x, -L 9 ≤ x → x < b → best ≤ Gr L r rule x := fun x x0 x1 => by
      have := gmn (x + L 9).toNat (by omega)
      rw [show -L 9 + ((x + L 9).toNat : Int) = x by omega] at this
      exact this
    refine ⟨fun ge => ⟨⟨qs, s4, by omega, by omega, ?_, fun z => ?_⟩, zRi (by omega) (by omega), by dsimp only; omega⟩, fun lt s28 e28 => ⟨⟨by rw [e28]; exact zQ_t qs (zQ_U (by decide)), by rw [e28, zU_k (by decide)]; exact s4, by omega, by omega, ?_, fun z => ?_⟩, zRi (by omega) (by omega), by dsimp only; omega⟩⟩
    · rw [gs, ← e24]
      unfold lsr
      split <;> omega
    · obtain ⟨i1, i2, i3, i4, i5⟩ := hI z
      refine ⟨i1, by omega, i3, fun x x0 x1 => ?_, i5⟩
      by_cases q : x = b
      · rw [q, ← e24]; exact ge
      · exact i4 x x0 (by omega)
    · rw [gs, ← e24]
      unfold lsr
      split <;> omega
    · rw [e28, zU_s]
      refine ⟨b0, by omega, e24.symm, fun x x0 x1 => ?_, fun x x0 x1 => ?_⟩
      · by_cases q : x = b
        · rw [q, ← e24]; exact Int.le_refl _
        · have := gmx x x0 (by omega)
          omega
      · have := gmx x x0 x1
        omega
end TL
theorem pr_earth {σ : zS} {r n : Int} (hi : INV σ) : q_A_earth r n (fun x u => q_M_earth r n (fun v w => Agr x v w) u) σ := by
  obtain ⟨L, hc, hm, hl, -⟩ := id hi
  have ref : ∀ (x : Int) (u : zS), FR σ u → (¬ (0 ≤ r ∧ r < 4) → Agr x 0 (zU u 41 0 1)) → ((0 ≤ r ∧ r < 4) → ¬ (0 ≤ n ∧ n ≤ 99) → Agr x 0 (zU u 41 0 2)) → ((0 ≤ r ∧ r < 4) → (0 ≤ n ∧ n ≤ 99) → L (175 + 81 * r) = 0 → Agr x 0 (zU u 41 0 3)) → ((0 ≤ r ∧ r < 4) → (0 ≤ n ∧ n ≤ 99) → L (175 + 81 * r) ≠ 0 → ∀ τ, zQ [55] (zU u 41 0 0) τ → Agr x (if Gt L r n < 1000000000 then Gt L r n else -1) τ) → q_M_earth r n (fun v w => Agr x v w) u := by
    intro x u fr a1 a2 a3 a0
    have hmu := FR_MM fr hm
    unfold q_M_earth
    refine t_M_isRoad (fun b0 b1 => ⟨fun w s => s = u ∧ GdP (¬ (0 ≤ r ∧ r < 4)) (¬ (0 ≤ n ∧ n ≤ 99)) (L (175 + 81 * r) = 0) w, fun w s4 hj _ => gd3 (K := fun s => Agr x 0 s) a1 (fun a b => a2 (Classical.not_not.mp a) b) (fun a b c => a3 (Classical.not_not.mp a) (Classical.not_not.mp b) c) (fun a b c => ?_) w s4 hj, n1b (t_M_isIn (fun x y => n1b (t_M_many hmu ⟨b0, b1⟩ ?_)) (fun x => n0b ?_))⟩) (fun b => ⟨fun w s => s = u ∧ GdP (¬ (0 ≤ r ∧ r < 4)) (¬ (0 ≤ n ∧ n ≤ 99)) (L (175 + 81 * r) = 0) w, fun w s4 hj _ => gd3 (K := fun s => Agr x 0 s) a1 (fun a b => a2 (Classical.not_not.mp a) b) (fun a b c => a3 (Classical.not_not.mp a) (Classical.not_not.mp b) c) (fun a _ _ => absurd b a) w s4 hj, n0b ⟨rfl, Or.inl ⟨rfl, b⟩⟩⟩)
    · have hr : 0 ≤ r ∧ r < 4 := ⟨b0, b1⟩
      have hd := Classical.not_not.mp b
      obtain ⟨hL, hW⟩ := hl.rd b0 b1 c
      have hm5 : MM L (-1) (-1) (zU u 41 0 0) := MM_F hmu (by decide)
      refine t_M_grading hm5 hL hr (hW r b0 b1) c hd (fun τ q _ => ?_)
      have le : Gt L r n ≤ 1000000000 := gm_le _ _ _
      have fin := a0 hr hd c τ q
      refine ⟨fun ne => ?_, fun ee => ?_⟩
      · rw [if_pos (by omega)] at fin
        exact fin
      · rw [if_neg (by omega)] at fin
        exact fin
    · have g1 : ¬ ¬ (0 ≤ r ∧ r < 4) := fun z => z ⟨b0, b1⟩
      have g2 : ¬ ¬ (0 ≤ n ∧ n ≤ 99) := fun z => z ⟨x, y⟩
      exact ⟨fun e => ⟨rfl, Or.inr ⟨g1, Or.inr ⟨g2, Or.inr ⟨rfl, e⟩⟩⟩⟩, fun e => ⟨rfl, Or.inr ⟨g1, Or.inr ⟨g2, Or.inl ⟨rfl, e⟩⟩⟩⟩⟩
    · exact ⟨rfl, Or.inr ⟨fun z => z ⟨b0, b1⟩, Or.inl ⟨rfl, x⟩⟩⟩
  unfold q_A_earth q_R_earth
  refine t_R_needRoad (fun b0 b1 => t_R_needNumber (fun n0 n1 => t_R_needBuilt hc ⟨b0, b1⟩ (fun nz => ?_) (fun z => Or.inr (Or.inr ⟨rfl, ref 3 σ (FR_r σ) (fun w => absurd ⟨b0, b1⟩ w) (fun _ w => absurd ⟨n0, n1⟩ w) (fun _ _ _ => Agr_x hi (by decide)) (fun _ _ w => absurd z w)⟩))) (fun nn => Or.inr (Or.inl ⟨rfl, ref 2 σ (FR_r σ) (fun w => absurd ⟨b0, b1⟩ w) (fun _ _ => Agr_x hi (by decide)) (fun _ w => absurd w nn) (fun _ w => absurd w nn)⟩))) (fun b => Or.inl ⟨rfl, ref 1 σ (FR_r σ) (fun _ => Agr_x hi (by decide)) (fun w => absurd w b) (fun w => absurd w b) (fun w => absurd w b)⟩)
  have hr : 0 ≤ r ∧ r < 4 := ⟨b0, b1⟩
  obtain ⟨hL, hW⟩ := hl.rd b0 b1 nz
  refine t_G_leastEarth hc hL hr (hW r b0 b1) nz ⟨n0, n1⟩ (fun τ q _ _ => ?_)
  have fr : FR σ (zU τ 64 0 (if Gt L r n < 1000000000 then Gt L r n else -1)) := FR_t (FR_Q q (by decide) (by decide)) (FR_64 _)
  refine ref 0 _ fr (fun w => absurd hr w) (fun _ w => absurd ⟨n0, n1⟩ w) (fun _ _ w => absurd w nz) (fun _ _ _ τ' q' => ?_)
  exact Agr_0 hi (FR_t (FR_t fr (FR_F (by decide))) (FR_Q q' (by decide) (by decide))) (by rw [q' 41 (by decide), zU_s]) (by rw [q' 64 (by decide), zU_o (by decide), zU_s])
