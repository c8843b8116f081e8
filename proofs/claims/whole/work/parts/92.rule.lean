/-! ===== the least rule ===== -/
theorem gm_lt {f : Int → Int} {d : Int} (hd : 0 ≤ d) : gm f (-d) (2 * d + 1).toNat < 1000000000 ↔ ∃ b, -d ≤ b ∧ b ≤ d ∧ f b < 1000000000 := by
  obtain ⟨a, c⟩ := gm_min f (-d) (2 * d + 1).toNat
  constructor
  · intro h
    rcases c with z | ⟨i, i1, i2⟩
    · omega
    · exact ⟨-d + i, by omega, by omega, by omega⟩
  · rintro ⟨b, b0, b1, b2⟩
    have := a (b + d).toNat (by omega)
    rw [show -d + ((b + d).toNat : Int) = b by omega] at this
    omega
theorem Gd_mono {L : Int → Int} {r ru rv : Int} (hL : GW L) (h : ru ≤ rv) : ∀ (n : Nat) (k o s : Int), n ≤ 100 → Gd L r ru n k o s < 1000000000 → Gd L r rv n k o s < 1000000000
  | 0, _, _, _, _, z => z
  | n + 1, k, o, s, hn, z => by
    have h9 : 0 ≤ L 9 ∧ L 9 ≤ 3 := by have := hL.2.1; omega
    unfold Gd at z ⊢
    rw [gm_lt h9.1] at z ⊢
    obtain ⟨b, b0, b1, b2⟩ := z
    have c : Rl L r ru k o b ∧ Gd L r ru n (k + 1) b (s + b) < 1000000000 := by
      refine Classical.byContradiction (fun w => ?_)
      rw [cif_f w] at b2
      omega
    have g := Gd_mono hL h n (k + 1) b (s + b) (by omega) c.2
    have rl : Rl L r rv k o b := by
      have c1 := c.1
      unfold Rl at c1 ⊢
      have : ru * lng (rhd L r k) ≤ rv * lng (rhd L r k) := by
        rcases lng_or (rhd L r k) with e | e <;> rw [e] <;> omega
      omega
    refine ⟨b, b0, b1, ?_⟩
    rw [cif_t ⟨rl, g⟩]
    have gb := Gd_b (r := r) (rule := rv) hL n (k + 1) b (s + b)
    have eb := eoV_b hL (o := b) (by omega)
    omega
theorem Gt_mono {L : Int → Int} {r ru rv : Int} (hL : GW L) (hN : L (175 + 81 * r) ≤ 40) (h : ru ≤ rv) (z : Gt L r ru < 1000000000) : Gt L r rv < 1000000000 := by
  have h9 : 0 ≤ L 9 ∧ L 9 ≤ 3 := by have := hL.2.1; omega
  unfold Gt at z ⊢
  rw [gm_lt h9.1] at z ⊢
  obtain ⟨b, b0, b1, b2⟩ := z
  have c : Gd L r ru (L (175 + 81 * r) - 1).toNat 0 b b < 1000000000 := by
    refine Classical.byContradiction (fun w => ?_)
    unfold Gr at b2
    rw [cif_f w] at b2
    omega
  have g := Gd_mono hL h _ 0 b b (by omega) c
  refine ⟨b, b0, b1, ?_⟩
  unfold Gr
  rw [cif_t g]
  have gb := Gd_b (r := r) (rule := rv) hL (L (175 + 81 * r) - 1).toNat 0 b b
  have eb := eoV_b hL (o := b) (by omega)
  omega
theorem Gt_b {L : Int → Int} {r rule : Int} (hL : GW L) (hN : L (175 + 81 * r) ≤ 40) : 0 ≤ Gt L r rule ∧ Gt L r rule ≤ 1000000000 := by
  have h9 : 0 ≤ L 9 ∧ L 9 ≤ 3 := by have := hL.2.1; omega
  have := gm_b (f := Gr L r rule) (lo := -L 9) (M := 2000) (by decide) (2 * L 9 + 1).toNat (fun i hi => by
    have gb := Gd_b (r := r) (rule := rule) hL (L (175 + 81 * r) - 1).toNat 0 (-L 9 + i) (-L 9 + i)
    have eb := eoV_b hL (o := -L 9 + i) (by omega)
    unfold Gr
    by_cases c : Gd L r rule (L (175 + 81 * r) - 1).toNat 0 (-L 9 + i) (-L 9 + i) < 1000000000
    · rw [cif_t c]; omega
    · rw [cif_f c]; exact Or.inr rfl)
  unfold Gt
  omega
def RuV (L : Int → Int) (r v : Int) : Prop := (v = -1 ∧ ∀ x, 0 ≤ x → x ≤ 99 → ¬ Gt L r x < 1000000000) ∨ (0 ≤ v ∧ v ≤ 99 ∧ Gt L r v < 1000000000 ∧ ∀ x, 0 ≤ x → x < v → ¬ Gt L r x < 1000000000)
theorem RuV_uniq {L : Int → Int} {r v w : Int} (h1 : RuV L r v) (h2 : RuV L r w) : v = w := by
  rcases h1 with ⟨a, b⟩ | ⟨a, b, c, d⟩
  · rcases h2 with ⟨a', b'⟩ | ⟨a', b', c', d'⟩
    · omega
    · exact absurd c' (b w a' b')
  · rcases h2 with ⟨a', b'⟩ | ⟨a', b', c', d'⟩
    · exact absurd c (b' v a b)
    · by_cases x : v < w
      · exact absurd c (d' v a x)
      · by_cases y : w < v
        · exact absurd c' (d w a' y)
        · omega
section TM
variable {K : Int → zS → Prop} {σ : zS} {L : Int → Int} {A B r : Int}
theorem t_M_ruling (hm : MM L A B σ) (hL : GW L) (hr : 0 ≤ r ∧ r < 4) (hw : RW L r) (nz : L (175 + 81 * r) ≠ 0) (h : ∀ v τ, zQ [55] σ τ → RuV L r v → K v τ) : q_M_ruling r K σ := by
  have hRW := hw.resolve_left nz
  unfold q_M_ruling
  refine ⟨fun lo hi s => zQ [55] σ s ∧ 0 ≤ lo ∧ lo ≤ hi ∧ hi ≤ 100 ∧ (∀ x, 0 ≤ x → x < lo → ¬ Gt L r x < 1000000000) ∧ (hi ≤ 99 → Gt L r hi < 1000000000), fun lo hi _ => (hi - lo).toNat, ⟨zQ_r _ _, by decide, by decide, by decide, fun x a b => by omega, fun z => absurd z (by decide)⟩, ?_⟩
  rintro lo hi s ⟨hq, l0, l1, h1, hN, hF⟩ - -
  refine ⟨fun c => ⟨fun c2 => h lo s hq (Or.inr ⟨l0, c2, ?_, hN⟩), fun c2 => h (-1) s hq (Or.inl ⟨rfl, fun x x0 x1 => hN x x0 (by omega)⟩)⟩, fun c => ⟨zRi (by omega) (by omega), fun x ex => ?_⟩⟩
  · rw [show lo = hi by omega]
    exact hF (by omega)
  · rw [Int.tdiv_eq_ediv_of_nonneg (by omega)] at ex
    refine ⟨zRi (by omega) (by omega), t_M_grading (MM_Q hm hq (by decide)) hL hr hw nz (by omega) (fun τ qt _ => ⟨fun g x12 e12 => ⟨⟨zQ_t hq qt, by omega, by omega, h1, fun y y0 y1 z => ?_, hF⟩, zRi (by omega) (by omega), by dsimp only; omega⟩, fun g => ⟨⟨zQ_t hq qt, l0, by omega, by omega, hN, fun _ => g⟩, by dsimp only; omega⟩⟩)⟩
    have := Gt_mono hL (by omega) (show y ≤ x by omega) z
    omega
theorem t_G_leastRule (hc : CC L σ) (hL : GW L) (hr : 0 ≤ r ∧ r < 4) (hw : RW L r) (nz : L (175 + 81 * r) ≠ 0) (h : ∀ v τ, zQ [35, 36, 37] σ τ → RuV L r v → K v τ) : q_G_leastRule r K σ := by
  have hRW := hw.resolve_left nz
  have gb : ∀ x, 0 ≤ Gt L r x ∧ Gt L r x ≤ 1000000000 := fun x => Gt_b hL (by omega)
  have rs : ∀ x, ((if Gt L r x < 1000000000 then Gt L r x else -1) ≠ -1 ↔ Gt L r x < 1000000000) := fun x => by
    have := gb x
    split <;> omega
  unfold q_G_leastRule
  refine t_G_leastEarth hc hL hr hw nz (by decide) (fun s1 q1 _ _ => ⟨fun ne => ?_, fun e => h (-1) s1 q1 (Or.inl ⟨rfl, fun x x0 x1 z => ?_⟩)⟩)
  · have f99 := (rs 99).mp ne
    refine ⟨fun lo hi s => zQ [35, 36, 37] σ s ∧ 0 ≤ lo ∧ lo ≤ hi ∧ hi ≤ 99 ∧ (∀ x, 0 ≤ x → x < lo → ¬ Gt L r x < 1000000000) ∧ Gt L r hi < 1000000000, fun lo hi _ => (hi - lo).toNat, ⟨q1, by decide, by decide, by decide, fun x a b => by omega, f99⟩, ?_⟩
    rintro lo hi s ⟨hq, l0, l1, h1, hN, hF⟩ - -
    refine ⟨fun c => h hi s hq (Or.inr ⟨by omega, h1, hF, fun x x0 x1 => hN x x0 (by omega)⟩), fun c => ⟨zRi (by omega) (by omega), fun x ex => ?_⟩⟩
    rw [Int.tdiv_eq_ediv_of_nonneg (by omega)] at ex
    refine ⟨zRi (by omega) (by omega), t_G_leastEarth (CC_Q hc hq (by decide)) hL hr hw nz (by omega) (fun τ qt _ _ => ⟨fun g => ⟨⟨zQ_t hq qt, l0, by omega, by omega, hN, (rs x).mp g⟩, by dsimp only; omega⟩, fun g x14 e14 => ⟨⟨zQ_t hq qt, by omega, by omega, h1, fun y y0 y1 z => ?_, hF⟩, zRi (by omega) (by omega), by dsimp only; omega⟩⟩)⟩
    have := Gt_mono hL (by omega) (show y ≤ x by omega) z
    exact (rs x).mpr this g
  · exact (rs 99).mpr (Gt_mono hL (by omega) x1 z) e
end TM
