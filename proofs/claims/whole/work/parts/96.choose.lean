/-! ===== the reference chooses the same offsets ===== -/
section TN
variable {L : Int → Int} {r rule o0 k : Int}
theorem cz_at (hL : GW L) (h1 : 2 ≤ L (175 + 81 * r)) (h2 : L (175 + 81 * r) ≤ 40) (hG : Gt L r rule < 1000000000) (hA : Am (Gr L r rule) (-L 9) (L 9) o0) (k0 : 0 ≤ k) (k1 : k < L (175 + 81 * r)) : CzP L r rule o0 k := by
  have := cz_P hL h1 h2 hG hA k.toNat (by omega)
  rw [Int.toNat_of_nonneg k0] at this
  exact this
theorem cz_next (hL : GW L) (h1 : 2 ≤ L (175 + 81 * r)) (h2 : L (175 + 81 * r) ≤ 40) (hG : Gt L r rule < 1000000000) (hA : Am (Gr L r rule) (-L 9) (L 9) o0) (k0 : 0 ≤ k) (k1 : k + 1 < L (175 + 81 * r)) : Am (fun b => Gn L r rule (L (175 + 81 * r) - 1 - k - 1) k (czo L r rule o0 k) b (czs L r rule o0 k)) (-L 9) (L 9) (czo L r rule o0 (k + 1)) ∧ Rl L r rule k (czo L r rule o0 k) (czo L r rule o0 (k + 1)) ∧ Cv L r rule k (czo L r rule o0 k) (czs L r rule o0 k) = eoV L (czo L r rule o0 k) + Cv L r rule (k + 1) (czo L r rule o0 (k + 1)) (czs L r rule o0 (k + 1)) ∧ czs L r rule o0 (k + 1) = czs L r rule o0 k + czo L r rule o0 (k + 1) := by
  have p := cz_at hL h1 h2 hG hA k0 (by omega)
  have s := czo_s (L := L) (r := r) (rule := rule) (o0 := o0) k0
  have am := chv_Am (rule := rule) (m := czs L r rule o0 k) (o := czo L r rule o0 k) hL k1
  rw [← s.1] at am
  have cs := (Cv_s hL k1 am).resolve_left (fun z => by have := z.2; have := p.2.2; omega)
  rw [s.2]
  exact ⟨am, cs.2.2.2.1, cs.2.2.2.2.2, rfl⟩
theorem bd_3 (hL : GW L) (k0 : 0 ≤ k) : bdF L r k ≤ 3 * k + 3 := by
  have h9 := hL.2.1
  have b := bd_or hL r k
  omega
theorem cz_sum (hL : GW L) (h1 : 2 ≤ L (175 + 81 * r)) (h2 : L (175 + 81 * r) ≤ 40) (hG : Gt L r rule < 1000000000) (hA : Am (Gr L r rule) (-L 9) (L 9) o0) (k0 : 0 ≤ k) (k1 : k < L (175 + 81 * r)) : -3 * k ≤ czs L r rule o0 k - czo L r rule o0 k ∧ czs L r rule o0 k - czo L r rule o0 k ≤ 3 * k := by
  by_cases e : k = 0
  · rw [e]
    have : czs L r rule o0 0 = czo L r rule o0 0 := rfl
    omega
  · have n := (cz_next hL h1 h2 hG hA (k := k - 1) (by omega) (by omega)).2.2.2
    have p := (cz_at hL h1 h2 hG hA (k := k - 1) (by omega) (by omega)).2.1
    have b := bd_3 (r := r) (k := k - 1) hL (by omega)
    rw [show k - 1 + 1 = k by omega] at n
    omega
/-- no offset before it does -/
theorem cz_first (hL : GW L) (h1 : 2 ≤ L (175 + 81 * r)) (h2 : L (175 + 81 * r) ≤ 40) (hG : Gt L r rule < 1000000000) (hA : Am (Gr L r rule) (-L 9) (L 9) o0) (k0 : 0 ≤ k) (k1 : k < L (175 + 81 * r)) {b : Int} (b0 : -L 9 ≤ b) (b1 : b < czo L r rule o0 k) (hb : k = 0 ∨ Rl L r rule (k - 1) (czo L r rule o0 (k - 1)) b) : Gd L r rule (L (175 + 81 * r) - 1 - k).toNat k b (czs L r rule o0 k - czo L r rule o0 k + b) + eoV L b ≠ Cv L r rule k (czo L r rule o0 k) (czs L r rule o0 k) := by
  have h9 := hL.2.1
  have p := cz_at hL h1 h2 hG hA k0 k1
  have p1 := p.1
  have p3 := p.2.2
  have eb := eoV_b hL (o := b) (by omega)
  by_cases c : Gd L r rule (L (175 + 81 * r) - 1 - k).toNat k b (czs L r rule o0 k - czo L r rule o0 k + b) < 1000000000
  · by_cases e : k = 0
    · subst e
      have e1 : czo L r rule o0 0 = o0 := rfl
      have e2 : czs L r rule o0 0 = o0 := rfl
      rw [e1, e2, show o0 - o0 + b = b by omega] at c ⊢
      rw [e1] at b1
      rw [Gr_Cv]
      obtain ⟨-, -, -, -, z⟩ := hA.resolve_left (fun z => by have := z.1; rw [e1] at p1; omega)
      have := z b b0 b1
      have eg : Gr L r rule b = Gd L r rule (L (175 + 81 * r) - 1 - 0).toNat 0 b b + eoV L b := by
        rw [show (L (175 + 81 * r) - 1 - 0).toNat = (L (175 + 81 * r) - 1).toNat by omega] at c ⊢
        exact cif_t c
      omega
    · have n := cz_next hL h1 h2 hG hA (k := k - 1) (by omega) (by omega)
      rw [show k - 1 + 1 = k by omega] at n
      have rl := hb.resolve_left e
      obtain ⟨-, -, -, -, z⟩ := n.1.resolve_left (fun z => by have := z.1; omega)
      have z' : Gn L r rule (L (175 + 81 * r) - 1 - (k - 1) - 1) (k - 1) (czo L r rule o0 (k - 1)) (czo L r rule o0 k) (czs L r rule o0 (k - 1)) < Gn L r rule (L (175 + 81 * r) - 1 - (k - 1) - 1) (k - 1) (czo L r rule o0 (k - 1)) b (czs L r rule o0 (k - 1)) := z b b0 b1
      rw [Gn_Cv _ n.2.1, Gn_Cv _ rl, show k - 1 + 1 = k by omega, ← n.2.2.2] at z'
      rw [show czs L r rule o0 k - czo L r rule o0 k + b = czs L r rule o0 (k - 1) + b by omega] at c ⊢
      have ev : Cv L r rule k b (czs L r rule o0 (k - 1) + b) = eoV L b + Gd L r rule (L (175 + 81 * r) - 1 - k).toNat k b (czs L r rule o0 (k - 1) + b) := cif_t c
      omega
  · omega
theorem t_M_chooses {K : zS → Prop} {σ : zS} {A B : Int} (hm : MM L A B σ) (hL : GW L) (hr : 0 ≤ r ∧ r < 4) (hw : RW L r) (nz : L (175 + 81 * r) ≠ 0) (hrl : 0 ≤ rule ∧ rule ≤ 99) (hE : EB L r rule (-1) 0 0 σ) (hG : Gt L r rule < 1000000000) (hA : Am (Gr L r rule) (-L 9) (L 9) o0) (h : ∀ τ, zQ [56] σ τ → (∀ k, 0 ≤ k → k < L (175 + 81 * r) → τ 56 k = czo L r rule o0 k) → K τ) : q_M_chooses r rule (Gt L r rule) K σ := by
  have hRW := hw.resolve_left nz
  have h9 : 0 ≤ L 9 ∧ L 9 ≤ 3 := by have := hL.2.1; omega
  have h1 : 2 ≤ L (175 + 81 * r) := hRW.1
  have h2 : L (175 + 81 * r) ≤ 40 := hRW.2.1
  have e0 : Gt L r rule = Cv L r rule 0 (czo L r rule o0 0) (czs L r rule o0 0) := by
    show Gt L r rule = Cv L r rule 0 o0 o0
    rw [Gr_Cv]
    rcases Am_gm (d := L 9) h9 hA with z | z
    · have : Gt L r rule = 1000000000 := z.2
      omega
    · exact z.2
  unfold q_M_chooses
  refine ⟨fun e sum k s => zQ [56] σ s ∧ 0 ≤ k ∧ k ≤ L (175 + 81 * r) ∧ (∀ j, 0 ≤ j → j < k → s 56 j = czo L r rule o0 j) ∧ (k < L (175 + 81 * r) → e = Cv L r rule k (czo L r rule o0 k) (czs L r rule o0 k) ∧ sum = czs L r rule o0 k - czo L r rule o0 k), fun _ _ k _ => (40 - k).toNat, ⟨zQ_r _ _, by decide, by omega, fun j a b => by omega, fun _ => ⟨e0, by show 0 = o0 - o0; omega⟩⟩, ?_⟩
  rintro e sum k s ⟨hq, k0, k1, hI, hJ⟩ - - -
  have hms := MM_Q hm hq (by decide)
  refine t_M_many hms hr ⟨fun c => h s hq (fun j j0 j1 => hI j j0 (by omega)), fun c x9 e9 => ?_⟩
  obtain ⟨ee, es⟩ := hJ c
  have p := cz_at hL h1 h2 hG hA k0 c
  have p1 := p.1
  have p3 := p.2.2
  have sb := cz_sum hL h1 h2 hG hA k0 c
  have cb := Cv_b (rule := rule) (m := czs L r rule o0 k) hL h2 k0 (o := czo L r rule o0 k) (by omega)
  rw [hms.1] at e9
  refine ⟨fun b t => t = s ∧ -L 9 ≤ b ∧ b ≤ czo L r rule o0 k, fun b _ => (czo L r rule o0 k + 1 - b).toNat, ⟨⟨rfl, by omega, by omega⟩, zRi (by omega) (by omega)⟩, ?_⟩
  rintro b t ⟨rfl, b0, b1⟩ -
  refine ⟨fun u => u = t ∧ (k = 0 ∨ Rl L r rule (k - 1) (czo L r rule o0 (k - 1)) b), fun u hu => ?_, fun z => ⟨rfl, Or.inl (by omega)⟩, fun z => ?_⟩
  · obtain ⟨rfl, hb⟩ := hu
    have gv : u 55 ((k * 7 + b + 3) * 246 + (sum + b) + 123) = Gd L r rule (L (175 + 81 * r) - 1 - k).toNat k b (sum + b) := by
      rw [hq 55 (by decide)]
      exact hE k b (sum + b) k0 (by omega) c b0 (by omega) (by omega) (by omega) (Or.inl (by omega))
    have gb := Gd_b (r := r) (rule := rule) hL (L (175 + 81 * r) - 1 - k).toNat k b (sum + b)
    have eb := eoV_b hL (o := b) (by omega)
    unfold q_M_cell
    refine ⟨zRi (by omega) (by omega), zRi (by omega) (by omega), by omega, t_M_earthOf hms hL (by omega) ?_⟩
    rw [gv]
    refine ⟨zRi (by omega) (by omega), fun eq => ⟨⟨k0, by omega⟩, fun s24 e24 x25 e25 => t_M_earthOf (A := A) (B := B) (by rw [e24]; exact MM_U hms (by decide)) hL (by omega) (fun x28 e28 => ?_)⟩, fun ne => ⟨⟨rfl, by omega, ?_⟩, zRi (by omega) (by omega), ?_⟩⟩
    · have bo : b = czo L r rule o0 k := by
        by_cases q : b < czo L r rule o0 k
        · have f := cz_first hL h1 h2 hG hA k0 c b0 q hb
          rw [← es, ← ee] at f
          exact absurd eq f
        · omega
      refine ⟨⟨by rw [e24]; exact zQ_t hq (zQ_U (by decide)), by omega, by omega, fun j j0 j1 => ?_, fun k2 => ?_⟩, zRi (by omega) (by omega), zRi (by omega) (by omega), by dsimp only; omega⟩
      · rw [e24, zU_if]
        by_cases q : j = k
        · rw [if_pos q, q, bo]
        · rw [if_neg q]
          exact hI j j0 (by omega)
      · have n := cz_next hL h1 h2 hG hA k0 k2
        rw [← bo] at n
        have n3 := n.2.2.1
        have n4 := n.2.2.2
        rw [bo] at e28 e25
        rw [bo] at n3
        exact ⟨by omega, by omega⟩
    · by_cases q : b < czo L r rule o0 k
      · omega
      · have bo : b = czo L r rule o0 k := by omega
        refine absurd ?_ ne
        rw [show sum + b = czs L r rule o0 k by omega, bo, ee]
        have g : Gd L r rule (L (175 + 81 * r) - 1 - k).toNat k (czo L r rule o0 k) (czs L r rule o0 k) < 1000000000 := by
          refine Classical.byContradiction (fun w => ?_)
          have : Cv L r rule k (czo L r rule o0 k) (czs L r rule o0 k) = 1000000000 := cif_f w
          omega
        have ev : Cv L r rule k (czo L r rule o0 k) (czs L r rule o0 k) = eoV L (czo L r rule o0 k) + Gd L r rule (L (175 + 81 * r) - 1 - k).toNat k (czo L r rule o0 k) (czs L r rule o0 k) := cif_t g
        omega
    · dsimp only
      omega
  · have n := cz_next hL h1 h2 hG hA (k := k - 1) (by omega) (by omega)
    have pp := (cz_at hL h1 h2 hG hA (k := k - 1) (by omega) (by omega)).1
    rw [show k - 1 + 1 = k by omega] at n
    rw [hI (k - 1) (by omega) (by omega)]
    refine ⟨by omega, zRi (by omega) (by omega), t_M_isRuled hms hL hr hw nz hrl (by omega) (by omega) (by omega) (by omega) (fun rl => n1a ⟨rfl, Or.inr rl⟩) (fun rl => n0a ⟨⟨rfl, by omega, ?_⟩, zRi (by omega) (by omega), ?_⟩)⟩
    · by_cases q : b = czo L r rule o0 k
      · rw [q] at rl
        exact absurd n.2.1 rl
      · omega
    · by_cases q : b = czo L r rule o0 k
      · rw [q] at rl
        exact absurd n.2.1 rl
      · dsimp only
        omega
end TN
