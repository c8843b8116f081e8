/-! ===== bridges ===== -/
/-- a sum over indices below k -/
def sI (f : Int → Int) (k : Int) : Int := smI (fun i => f (i : Int)) k.toNat
theorem sI_0 (f : Int → Int) : sI f 0 = 0 := rfl
theorem sI_s (f : Int → Int) {k : Int} (h : 0 ≤ k) : sI f (k + 1) = sI f k + f k := by
  unfold sI
  rw [smI_i _ h, Int.toNat_of_nonneg h]
theorem sI_bd {f : Int → Int} {a b k : Int} (hk : 0 ≤ k) (h : ∀ i, 0 ≤ i → i < k → a ≤ f i ∧ f i ≤ b) : a * k ≤ sI f k ∧ sI f k ≤ b * k := by
  have := smI_bd (f := fun i => f (i : Int)) (a := a) (b := b) k.toNat (fun i hi => h i (by omega) (by omega))
  rw [Int.toNat_of_nonneg hk] at this
  exact this
theorem sI_congr {f g : Int → Int} {k : Int} (h : ∀ i, 0 ≤ i → i < k → f i = g i) : sI f k = sI g k := by
  unfold sI
  exact smI_congr _ (fun i hi => h i (by omega) (by omega))
def Frs (L : Int → Int) (r k : Int) : Prop := ∀ j, 0 ≤ j → j < k → L (176 + 81 * r + j) ≠ L (176 + 81 * r + k)
noncomputable def brF (L : Int → Int) (r n k : Int) : Int := cif (Frs L r k ∧ n ≤ catL L (L (176 + 81 * r + k))) 1 0
theorem cif_b {P : Prop} : 0 ≤ cif P 1 0 ∧ cif P 1 0 ≤ 1 := by
  by_cases c : P
  · rw [cif_t c]; decide
  · rw [cif_f c]; decide
theorem pr_bridges {σ : zS} {r n : Int} (hi : INV σ) : q_A_bridges r n (fun x u => q_M_bridges r n (fun v w => Agr x v w) u) σ := by
  obtain ⟨L, hc, hm, hl, -⟩ := id hi
  have sbd : ∀ k, 0 ≤ k → 0 ≤ sI (brF L r n) k ∧ sI (brF L r n) k ≤ k := fun k k0 => by
    have := sI_bd (f := brF L r n) (a := 0) (b := 1) k0 (fun i _ _ => cif_b)
    omega
  have ref : ∀ (x : Int) (u : zS), FR σ u → (¬ (0 ≤ r ∧ r < 4) → Agr x 0 (zU u 41 0 1)) → ((0 ≤ r ∧ r < 4) → ¬ (1 ≤ n ∧ n ≤ 81) → Agr x 0 (zU u 41 0 2)) → ((0 ≤ r ∧ r < 4) → (1 ≤ n ∧ n ≤ 81) → L (175 + 81 * r) = 0 → Agr x 0 (zU u 41 0 3)) → ((0 ≤ r ∧ r < 4) → (1 ≤ n ∧ n ≤ 81) → L (175 + 81 * r) ≠ 0 → ∀ τ, zQ [62] (zU u 41 0 0) τ → Agr x (sI (brF L r n) (L (175 + 81 * r))) τ) → q_M_bridges r n (fun v w => Agr x v w) u := by
    intro x u fr a1 a2 a3 a0
    have hmu := FR_MM fr hm
    unfold q_M_bridges
    refine t_M_isRoad (fun b0 b1 => ⟨fun w s => s = u ∧ GdP (¬ (0 ≤ r ∧ r < 4)) (¬ (1 ≤ n ∧ n ≤ 81)) (L (175 + 81 * r) = 0) w, fun w s4 hj _ => gd3 (K := fun s => Agr x 0 s) a1 (fun a b => a2 (Classical.not_not.mp a) b) (fun a b c => a3 (Classical.not_not.mp a) (Classical.not_not.mp b) c) (fun a b c => ?_) w s4 hj, n1b (t_M_isIn (fun x y => n1b (t_M_many hmu ⟨b0, b1⟩ ?_)) (fun x => n0b ?_))⟩) (fun b => ⟨fun w s => s = u ∧ GdP (¬ (0 ≤ r ∧ r < 4)) (¬ (1 ≤ n ∧ n ≤ 81)) (L (175 + 81 * r) = 0) w, fun w s4 hj _ => gd3 (K := fun s => Agr x 0 s) a1 (fun a b => a2 (Classical.not_not.mp a) b) (fun a b c => a3 (Classical.not_not.mp a) (Classical.not_not.mp b) c) (fun a _ _ => absurd b a) w s4 hj, n0b ⟨rfl, Or.inl ⟨rfl, b⟩⟩⟩)
    · have hr : 0 ≤ r ∧ r < 4 := ⟨b0, b1⟩
      have hd := Classical.not_not.mp b
      obtain ⟨hL, hW⟩ := hl.rd b0 b1 c
      have hm5 : MM L (-1) (-1) (zU u 41 0 0) := MM_F hmu (by decide)
      have hRW := (hW r b0 b1).resolve_left c
      refine t_M_laysCatches hm5 hL (fun τ q hcat => ?_)
      have hmt := MM_Q hm5 q (by decide)
      refine ⟨fun v k s => s = τ ∧ 0 ≤ k ∧ k ≤ L (175 + 81 * r) ∧ v = sI (brF L r n) k, fun _ k _ => (40 - k).toNat, ⟨rfl, by decide, by omega, rfl⟩, ?_⟩
      rintro v k s ⟨rfl, k0, k1, ev⟩ - -
      refine t_M_many hmt hr ⟨fun e => ?_, fun e => ?_⟩
      · rw [ev, show k = L (175 + 81 * r) by omega]
        exact a0 hr hd c s q
      · have ipk := (hRW.2.2.1 k k0 e).1
        have nx : ∀ y, y = v + brF L r n k → (s = s ∧ 0 ≤ k + 1 ∧ k + 1 ≤ L (175 + 81 * r) ∧ y = sI (brF L r n) (k + 1)) ∧ zR y ∧ zR (k + 1) ∧ (40 - (k + 1)).toNat < (40 - k).toNat := fun y ey => by
          have e1 := sI_s (brF L r n) k0
          have e2 := sbd (k + 1) (by omega)
          exact ⟨⟨rfl, by omega, by omega, by omega⟩, zRi (by omega) (by omega), zRi (by omega) (by omega), by omega⟩
        refine ⟨fun f j s' => s' = s ∧ 0 ≤ j ∧ j ≤ k ∧ ((f = 1 ∧ ∀ i, 0 ≤ i → i < j → L (176 + 81 * r + i) ≠ L (176 + 81 * r + k)) ∨ (f = 0 ∧ ¬ Frs L r k)), fun _ j _ => (40 - j).toNat, ⟨rfl, by decide, k0, Or.inl ⟨rfl, fun i i0 i1 => by omega⟩⟩, ?_⟩
        rintro f j s' ⟨rfl, j0, j1, hf⟩ - -
        refine ⟨fun e1 => ⟨fun f0 y ey => nx y ?_, fun f1 => t_M_placeAt hmt hr ⟨k0, by omega⟩ ⟨ipk.b hL, fun lt y ey => nx y ?_, fun ge y ey => nx y ?_⟩⟩, fun e1 => ⟨fun f0 => ?_, fun f1 => t_M_placeAt hmt hr ⟨j0, by omega⟩ (t_M_placeAt hmt hr ⟨k0, by omega⟩ ⟨fun eq => ?_, fun ne => ?_⟩)⟩⟩
        · have := (hf.resolve_left (fun z => by have := z.1; omega)).2
          unfold brF
          rw [cif_f (fun z => this z.1)]
          exact ey
        · rw [hcat _ ipk] at lt
          unfold brF
          rw [cif_f (fun z => by have := z.2; omega)]
          exact ey
        · rw [hcat _ ipk] at ge
          have hF := (hf.resolve_right (fun z => f1 z.1)).2
          unfold brF
          rw [cif_t ⟨fun i i0 i1 => hF i i0 (by omega), ge⟩]
          exact ey
        · exact ⟨⟨rfl, by omega, by omega, Or.inr ⟨rfl, (hf.resolve_left (fun z => by have := z.1; omega)).2⟩⟩, zRi (by omega) (by omega), by dsimp only; omega⟩
        · exact ⟨⟨rfl, by omega, by omega, Or.inr ⟨rfl, fun z => z j j0 e1 eq⟩⟩, zRi (by omega) (by omega), by dsimp only; omega⟩
        · have hF := (hf.resolve_right (fun z => f1 z.1)).2
          refine ⟨⟨rfl, by omega, by omega, Or.inl ⟨rfl, fun i i0 i1 => ?_⟩⟩, zRi (by omega) (by omega), by dsimp only; omega⟩
          by_cases ei : i = j
          · rw [ei]; exact ne
          · exact hF i i0 (by omega)
    · have g1 : ¬ ¬ (0 ≤ r ∧ r < 4) := fun z => z ⟨b0, b1⟩
      have g2 : ¬ ¬ (1 ≤ n ∧ n ≤ 81) := fun z => z ⟨x, y⟩
      exact ⟨fun e => ⟨rfl, Or.inr ⟨g1, Or.inr ⟨g2, Or.inr ⟨rfl, e⟩⟩⟩⟩, fun e => ⟨rfl, Or.inr ⟨g1, Or.inr ⟨g2, Or.inl ⟨rfl, e⟩⟩⟩⟩⟩
    · exact ⟨rfl, Or.inr ⟨fun z => z ⟨b0, b1⟩, Or.inl ⟨rfl, x⟩⟩⟩
  unfold q_A_bridges q_R_bridges
  refine t_R_needRoad (fun b0 b1 => t_R_needNumber (fun n0 n1 => t_R_needBuilt hc ⟨b0, b1⟩ (fun nz => ?_) (fun z => Or.inr (Or.inr ⟨rfl, ref 3 σ (FR_r σ) (fun w => absurd ⟨b0, b1⟩ w) (fun _ w => absurd ⟨n0, n1⟩ w) (fun _ _ _ => Agr_x hi (by decide)) (fun _ _ w => absurd z w)⟩))) (fun nn => Or.inr (Or.inl ⟨rfl, ref 2 σ (FR_r σ) (fun w => absurd ⟨b0, b1⟩ w) (fun _ _ => Agr_x hi (by decide)) (fun _ w => absurd w nn) (fun _ w => absurd w nn)⟩))) (fun b => Or.inl ⟨rfl, ref 1 σ (FR_r σ) (fun _ => Agr_x hi (by decide)) (fun w => absurd w b) (fun w => absurd w b) (fun w => absurd w b)⟩)
  have hr : 0 ≤ r ∧ r < 4 := ⟨b0, b1⟩
  obtain ⟨hL, hW⟩ := hl.rd b0 b1 nz
  have hRW := (hW r b0 b1).resolve_left nz
  unfold q_U_bridgesOver q_S_catchOf
  refine t_S_gather hc hL (fun τ q hcat => t_J_fill2 (M := 81) rfl ?_)
  have qf : zQ [39] τ (zFill τ 39 0 81 0) := zQ_F (by decide)
  refine ⟨fun v k s => zQ [12, 13, 39] σ s ∧ s 13 = τ 13 ∧ 0 ≤ k ∧ k ≤ L (175 + 81 * r) ∧ v = sI (brF L r n) k ∧ ∀ p, inP L p → (s 39 p = 0 ↔ ∀ j, 0 ≤ j → j < k → L (176 + 81 * r + j) ≠ p), fun _ k _ => (40 - k).toNat, ⟨zQ_t (zQ_m q (by decide)) (zQ_m qf (by decide)), qf 13 (by decide), by decide, by omega, rfl, fun p ip => ⟨fun _ j j0 j1 => by omega, fun _ => zFill_at ip.1 (ip.b hL).2⟩⟩, ?_⟩
  rintro v k s ⟨hq, s13, k0, k1, ev, hM⟩ - -
  have hcs := CC_Q hc hq (by decide)
  refine t_L_roadSize hcs hr ⟨fun e => ?_, fun e => ?_⟩
  · have fr : FR σ (zU s 64 0 v) := FR_t (FR_Q hq (by decide) (by decide)) (FR_64 v)
    refine ref 0 _ fr (fun w => absurd hr w) (fun _ w => absurd ⟨n0, n1⟩ w) (fun _ _ w => absurd w nz) (fun _ _ _ τ' q' => ?_)
    rw [← show k = L (175 + 81 * r) by omega, ← ev]
    exact Agr_0 hi (FR_t (FR_t fr (FR_F (by decide))) (FR_Q q' (by decide) (by decide))) (by rw [q' 41 (by decide), zU_s]) (by rw [q' 64 (by decide), zU_o (by decide), zU_s])
  have ipk := (hRW.2.2.1 k k0 e).1
  have nx : ∀ y s', s' = zU s 39 (L (176 + 81 * r + k)) 1 → y = v + brF L r n k → (zQ [12, 13, 39] σ s' ∧ s' 13 = τ 13 ∧ 0 ≤ k + 1 ∧ k + 1 ≤ L (175 + 81 * r) ∧ y = sI (brF L r n) (k + 1) ∧ ∀ p, inP L p → (s' 39 p = 0 ↔ ∀ j, 0 ≤ j → j < k + 1 → L (176 + 81 * r + j) ≠ p)) ∧ zR y ∧ zR (k + 1) ∧ (40 - (k + 1)).toNat < (40 - k).toNat := fun y s' es ey => by
    have e1 := sI_s (brF L r n) k0
    have e2 := sbd (k + 1) (by omega)
    refine ⟨⟨by rw [es]; exact zQ_t hq (zQ_U (by decide)), by rw [es, zU_row (by decide), s13], by omega, by omega, by omega, fun p ip => ?_⟩, zRi (by omega) (by omega), zRi (by omega) (by omega), by omega⟩
    rw [es, zU_if]
    by_cases ep : p = L (176 + 81 * r + k)
    · rw [if_pos ep]
      exact ⟨fun z => absurd z (by decide), fun z => absurd ep.symm (z k k0 (by omega))⟩
    · rw [if_neg ep, hM p ip]
      constructor
      · intro z j j0 j1
        by_cases ej : j = k
        · rw [ej]; exact fun w => ep w.symm
        · exact z j j0 (by omega)
      · intro z j j0 j1
        exact z j j0 (by omega)
  refine t_L_roadPlace hcs hr ⟨k0, by omega⟩ ⟨ipk.b hL, fun mz s14 e14 => ?_, fun z => ⟨ipk.b hL, fun lt s20 e20 => ?_, fun ge s24 e24 => ?_⟩⟩
  · have := nx v s14 e14 (by
      unfold brF
      rw [cif_f (fun w => mz ((hM _ ipk).mpr w.1))]
      omega)
    exact ⟨this.1, this.2.2.1, this.2.2.2⟩
  · have := nx v s20 e20 (by
      rw [s13, hcat _ ipk] at lt
      unfold brF
      rw [cif_f (fun w => by have := w.2; omega)]
      omega)
    exact ⟨this.1, this.2.2.1, this.2.2.2⟩
  · exact nx (v + 1) s24 e24 (by
      rw [s13, hcat _ ipk] at ge
      unfold brF
      rw [cif_t ⟨(hM _ ipk).mp z, ge⟩])
