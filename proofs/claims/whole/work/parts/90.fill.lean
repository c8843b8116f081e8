/-! ===== grading: a place of the class's table is filled ===== -/
section TJ
variable {σ : zS} {L : Int → Int} {r rule k m o : Int} {s0 s : zS}
theorem FQ_fin {K : zS → Prop} (k0 : 0 ≤ k) (hm : bdF L r k < m) (hq : zQ [35] σ s0) (h4 : s0 35 4 = L 9) (hF : FQ L r rule k s0 m (-L 9) s) (h : ∀ τ, zQ [35, 36, 37] σ τ → τ 35 4 = L 9 → C36 L r rule k τ → W37 L r rule k τ → K τ) : K s := by
  obtain ⟨a, b, c, d, e⟩ := hF
  refine h s (zQ_t (zQ_m hq (by decide)) (zQ_m a (by decide))) (by rw [a 35 (by decide)]; exact h4) (fun x y x0 x1 y0 y1 => c x y x0 x1 y0 y1 (Or.inl (by omega))) (fun k' y q0 q1 y0 y1 => ?_)
  by_cases q : k' = k
  · rw [q] at y0 y1 ⊢
    exact e y y0 (by omega)
  · exact d k' y (by omega) q1 y0 y1
theorem Cv_l (hL : GW L) (hN : L (175 + 81 * r) ≤ 40) (k0 : 0 ≤ k) (k1 : k + 1 = L (175 + 81 * r)) (hm : -bdF L r k ≤ m ∧ m ≤ bdF L r k) : Cv L r rule k o m = eoV L o := by
  have bb := bd_b hL (r := r) (k := k) hN k0 (by omega)
  have b2 := bb.2.2.1 k1
  have g : Gd L r rule (L (175 + 81 * r) - 1 - k).toNat k o m = 0 := by
    rw [show (L (175 + 81 * r) - 1 - k).toNat = 0 by omega]
    show (if -L 12 ≤ m ∧ m ≤ L 12 then 0 else 1000000000) = (0 : Int)
    rw [if_pos (by omega)]
  unfold Cv
  rw [g, cif_t (by decide)]
  omega
theorem Cv_in (hL : GW L) (hN : L (175 + 81 * r) ≤ 40) (k0 : 0 ≤ k) (k1 : k + 1 < L (175 + 81 * r)) (hm : -bdF L r k ≤ m ∧ m ≤ bdF L r k) {v : Int} (hv : -L 9 ≤ v ∧ v ≤ L 9) (h : Cv L r rule (k + 1) v (m + v) < 1000000000) : -bdF L r (k + 1) ≤ m + v ∧ m + v ≤ bdF L r (k + 1) := by
  refine Classical.byContradiction (fun w => ?_)
  have z := Gd_inf (r := r) (rule := rule) hL (L (175 + 81 * r) - 1 - k - 1).toNat (k + 1) v (m + v) (bd_out hL hN k0 k1 hm hv (by omega))
  have : Cv L r rule (k + 1) v (m + v) = 1000000000 := by
    unfold Cv
    rw [show (L (175 + 81 * r) - 1 - (k + 1)).toNat = (L (175 + 81 * r) - 1 - k - 1).toNat by omega, z]
    exact cif_f (by decide)
  omega
theorem t_G_fillPlace {K : zS → Prop} (hc : CC L σ) (hL : GW L) (hr : 0 ≤ r ∧ r < 4) (hw : RW L r) (nz : L (175 + 81 * r) ≠ 0) (hrl : 0 ≤ rule ∧ rule ≤ 99) (k0 : 0 ≤ k) (k1 : k < L (175 + 81 * r)) (h4 : σ 35 4 = L 9) (h36 : k + 1 < L (175 + 81 * r) → C36 L r rule (k + 1) σ) (h37 : W37 L r rule (k + 1) σ) (h : ∀ τ, zQ [35, 36, 37] σ τ → τ 35 4 = L 9 → C36 L r rule k τ → W37 L r rule k τ → K τ) : q_G_fillPlace r rule k K σ := by
  have hRW := hw.resolve_left nz
  have hN : L (175 + 81 * r) ≤ 40 := by omega
  have h9 := hL.2.1
  have bb := bd_b hL (r := r) (k := k) hN k0 k1
  unfold q_G_fillPlace q_G_choiceShift
  refine t_L_roadSize hc hr ⟨fun w => (w = 0 ∧ k + 1 < L (175 + 81 * r)) ∨ (w = 1 ∧ k + 1 = L (175 + 81 * r)), fun w hw' _ => t_G_bound hc hL h4 hr hw nz k0 k1 ?_, zRi (by omega) (by omega), fun ne => Or.inl ⟨rfl, by omega⟩, fun e => Or.inr ⟨rfl, e⟩⟩
  rcases hw' with ⟨rfl, kN⟩ | ⟨rfl, kN⟩
  · refine n0b (t_G_look hc hL h4 hr hw nz hrl k0 kN (fun s0 q0 g4 g5 g6 g7 x7 e7 => ?_))
    have hc0 := CC_Q hc q0 (by decide)
    refine ⟨fun m s => FQ L r rule k s0 m (-L 9) s ∧ -bdF L r k ≤ m ∧ m ≤ bdF L r k + 1, fun m _ => (bdF L r k + 1 - m).toNat, ⟨⟨⟨zQ_r _ _, fun q x y x0 x1 y0 y1 => by rw [q0 36 (by decide)]; exact h36 q x y x0 x1 y0 y1, fun x y x0 x1 y0 y1 hh => by omega, fun k' y a b c d => by rw [q0 37 (by decide)]; exact h37 k' y a b c d, fun y y0 y1 => by omega⟩, by omega, by omega⟩, zRi (by omega) (by omega)⟩, ?_⟩
    rintro m s ⟨hF, m0, m1⟩ -
    have g4s : s 35 4 = L 9 := by rw [hF.1 35 (by decide)]; exact g4
    refine ⟨fun c => FQ_fin k0 c q0 g4 hF h, fun c x13 e13 => ?_⟩
    rw [g4s] at e13
    refine ⟨fun w o s => FQ L r rule k s0 m o s ∧ -L 9 ≤ o ∧ o ≤ L 9 + 1 ∧ w = pk (chv L r rule k m) (-L 9) (o - -L 9).toNat, fun _ o _ => (L 9 + 1 - o).toNat, ⟨⟨FQ_o hF e13, by omega, by omega, by rw [e13, show (-L 9 - -L 9).toNat = 0 by omega]; rfl⟩, zRi (by omega) (by omega)⟩, ?_⟩
    rintro w o s16 ⟨hF16, o0, o1, ew⟩ - -
    have f16 := hF16.1
    have g4' : s16 35 4 = L 9 := by rw [f16 35 (by decide)]; exact g4
    have hc16 := CC_Q hc0 f16 (by decide)
    rw [g4']
    refine ⟨fun c2 => ⟨by omega, fun s21 e21 => ⟨⟨FQ_m hL hN k0 k1 ⟨m0, c⟩ c2 hF16 (by rw [e21, ew, show (o - -L 9).toNat = (2 * L 9 + 1).toNat by omega]), by omega, by omega⟩, zRi (by omega) (by omega), by dsimp only; omega⟩⟩, fun c2 => ?_⟩
    refine ⟨fun v t => t = s16 ∧ Am (fun b => Gn L r rule (L (175 + 81 * r) - 1 - k - 1) k o b m) (-L 9) (L 9) v, fun v t hv _ => ?_, n0a (t_G_bestNext hL hw nz hrl k0 kN ⟨o0, c2⟩ ⟨m0, c⟩ g4' (by rw [f16 35 (by decide)]; exact g5) (by rw [f16 35 (by decide)]; exact g6) (by rw [f16 35 (by decide)]; exact g7) (hF16.2.1 kN) (fun v hv => ⟨rfl, hv⟩))⟩
    obtain ⟨rfl, hAm⟩ := hv
    have ev := chv_eq kN hAm
    have hs := Cv_s hL kN hAm
    have vb : -3 ≤ v ∧ v ≤ 4 := by rcases hs with z | z <;> omega
    refine ⟨fun w26 s => s = t ∧ (v ≠ 4 → w26 = Cv L r rule (k + 1) v (m + v)) ∧ (v = 4 → w26 = 0), fun w26 s hw26 _ => ?_, v = 4, fun e4 => ⟨rfl, fun ne => absurd e4 ne, fun _ => rfl⟩, n0b ⟨fun ne => ?_, fun e => e⟩⟩
    · obtain ⟨rfl, w1, w2⟩ := hw26
      refine t_G_cell (by omega) (by omega) (by omega) ⟨fun w30 u => u = s ∧ w30 = Cv L r rule k o m, fun w30 u hu _ => ?_, fun ne => t_G_earthOf hc16 hL (by omega) ?_, fun e4 => ⟨rfl, ?_⟩⟩
      · obtain ⟨rfl, e30⟩ := hu
        refine ⟨by unfold cl36; omega, fun s33 e33 => ⟨zRi (by omega) (by omega), fun x36 e36 => ⟨⟨FQ_w hL hN k0 k1 ⟨o0, c2⟩ ⟨m0, c⟩ hF16 (by rw [e33, e30]), by omega, by omega, ?_⟩, zRi (by omega) (by omega), by dsimp only; omega⟩⟩⟩
        rw [pk_s _ _ o0, ← ew, ← ev]
        exact e36
      · have z := hs.resolve_left (fun z => ne z.1)
        have z5 := z.2.2.2.2.1
        have cb := Cv_b (rule := rule) (m := m + v) hL hN (show 0 ≤ k + 1 by omega) (o := v) (by omega)
        have eb := eoV_b hL (o := o) (by omega)
        rw [w1 ne]
        exact ⟨⟨rfl, z.2.2.2.2.2.symm⟩, zRi (by omega) (by omega)⟩
      · exact ((hs.resolve_right (fun z => z.1 e4)).2).symm
    · have z := hs.resolve_left (fun z => ne z.1)
      have zi := Cv_in hL hN k0 kN ⟨m0, c⟩ ⟨z.2.1, z.2.2.1⟩ z.2.2.2.2.1
      have bb' := bd_b hL (r := r) (k := k + 1) hN (by omega) kN
      exact ⟨zRi (by omega) (by omega), zRi (by omega) (by omega), t_G_cell (by omega) (by omega) (by omega) ⟨by unfold cl36; omega, rfl, fun _ => hF16.2.1 kN v (m + v) z.2.1 z.2.2.1 zi.1 zi.2, fun e => absurd e ne⟩⟩
  · refine n1b (fun x7 e7 => ?_)
    refine ⟨fun m s => FQ L r rule k σ m (-L 9) s ∧ -bdF L r k ≤ m ∧ m ≤ bdF L r k + 1, fun m _ => (bdF L r k + 1 - m).toNat, ⟨⟨⟨zQ_r _ _, h36, fun x y x0 x1 y0 y1 hh => by omega, h37, fun y y0 y1 => by omega⟩, by omega, by omega⟩, zRi (by omega) (by omega)⟩, ?_⟩
    rintro m s ⟨hF, m0, m1⟩ -
    have g4s : s 35 4 = L 9 := by rw [hF.1 35 (by decide)]; exact h4
    refine ⟨fun c => FQ_fin k0 c (zQ_r _ _) h4 hF h, fun c x13 e13 => ?_⟩
    rw [g4s] at e13
    refine ⟨fun w o s => FQ L r rule k σ m o s ∧ -L 9 ≤ o ∧ o ≤ L 9 + 1 ∧ w = pk (chv L r rule k m) (-L 9) (o - -L 9).toNat, fun _ o _ => (L 9 + 1 - o).toNat, ⟨⟨FQ_o hF e13, by omega, by omega, by rw [e13, show (-L 9 - -L 9).toNat = 0 by omega]; rfl⟩, zRi (by omega) (by omega)⟩, ?_⟩
    rintro w o s16 ⟨hF16, o0, o1, ew⟩ - -
    have f16 := hF16.1
    have g4' : s16 35 4 = L 9 := by rw [f16 35 (by decide)]; exact h4
    have hc16 := CC_Q hc f16 (by decide)
    rw [g4']
    refine ⟨fun c2 => ⟨by omega, fun s21 e21 => ⟨⟨FQ_m hL hN k0 k1 ⟨m0, c⟩ c2 hF16 (by rw [e21, ew, show (o - -L 9).toNat = (2 * L 9 + 1).toNat by omega]), by omega, by omega⟩, zRi (by omega) (by omega), by dsimp only; omega⟩⟩, fun c2 => ?_⟩
    refine ⟨fun v t => t = s16 ∧ v = 0, fun v t hv _ => ?_, n1a ⟨rfl, rfl⟩⟩
    obtain ⟨rfl, rfl⟩ := hv
    have ev : (0 : Int) = chv L r rule k m o := (cif_f (by omega)).symm
    have eb := eoV_b hL (o := o) (by omega)
    refine ⟨fun w26 s => s = t ∧ w26 = 0, fun w26 s hw26 _ => ?_, True, fun _ => ⟨rfl, rfl⟩, n1b trivial⟩
    obtain ⟨rfl, rfl⟩ := hw26
    refine t_G_cell (by omega) (by omega) (by omega) ⟨fun w30 u => u = s ∧ w30 = Cv L r rule k o m, fun w30 u hu _ => ?_, fun ne => t_G_earthOf hc16 hL (by omega) ⟨⟨rfl, ?_⟩, zRi (by omega) (by omega)⟩, fun e4 => absurd e4 (by decide)⟩
    · obtain ⟨rfl, e30⟩ := hu
      refine ⟨by unfold cl36; omega, fun s33 e33 => ⟨zRi (by omega) (by omega), fun x36 e36 => ⟨⟨FQ_w hL hN k0 k1 ⟨o0, c2⟩ ⟨m0, c⟩ hF16 (by rw [e33, e30]), by omega, by omega, ?_⟩, zRi (by omega) (by omega), by dsimp only; omega⟩⟩⟩
      rw [pk_s _ _ o0, ← ew, ← ev]
      exact e36
    · rw [Cv_l hL hN k0 kN ⟨m0, c⟩]
      omega
end TJ
