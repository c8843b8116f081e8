/-! ===== what is said of a road: the rest, rules aside ===== -/
noncomputable def hpF (L : Int → Int) (r k : Int) : Int := cif (k ≠ 0 ∧ L 3 < eig (rhd L r (k - 1)) (rhd L r k)) 1 0
/-- the first of n that lacks something -/
def Fst (P : Int → Prop) (n v : Int) : Prop := (v = -1 ∧ ∀ k, 0 ≤ k → k < n → P k) ∨ (0 ≤ v ∧ v < n ∧ ¬ P v ∧ ∀ k, 0 ≤ k → k < v → P k)
theorem Fst_uniq {P : Int → Prop} {n v w : Int} (h1 : Fst P n v) (h2 : Fst P n w) : v = w := by
  rcases h1 with ⟨a, b⟩ | ⟨a, b, c, d⟩
  · rcases h2 with ⟨a', b'⟩ | ⟨a', b', c', d'⟩
    · omega
    · exact absurd (b w a' b') c'
  · rcases h2 with ⟨a', b'⟩ | ⟨a', b', c', d'⟩
    · exact absurd (b' v a b) c
    · by_cases x : v < w
      · exact absurd (d' v a x) c
      · by_cases y : w < v
        · exact absurd (d w a' y) c'
        · omega
def eoF (L : Int → Int) (r k : Int) : Int := if 0 ≤ L (216 + 81 * r + k) then L (216 + 81 * r + k) * L 11 else (-L (216 + 81 * r + k)) * L 10
def ofF (L : Int → Int) (r k : Int) : Int := L (216 + 81 * r + k)
def lvF (L : Int → Int) (r k : Int) : Int := L (13 + L (176 + 81 * r + k)) + L (216 + 81 * r + k)
def StyR (L : Int → Int) (r k : Int) : Prop := Sty L (-1) (-1) (L (176 + 81 * r + k)) (rhd L r k)
def BndR (L : Int → Int) (r k : Int) : Prop := k = 0 ∨ Bnd L (L (176 + 81 * r + k)) (rhd L r (k - 1)) (rhd L r k)
section TV
variable {K : Int → zS → Prop} {σ : zS} {L : Int → Int} {A B r k : Int}
theorem hp_s (L : Int → Int) (r : Int) (h : 1 ≤ k) : (L 3 < eig (rhd L r (k - 1)) (rhd L r k) → hpF L r k = 1) ∧ (eig (rhd L r (k - 1)) (rhd L r k) ≤ L 3 → hpF L r k = 0) := by
  unfold hpF
  exact ⟨fun c => cif_t ⟨by omega, c⟩, fun c => cif_f (fun z => by have := z.2; omega)⟩
theorem hp_1 (L : Int → Int) (r : Int) : sI (hpF L r) 1 = 0 := by
  have := sI_s (hpF L r) (k := 0) (by decide)
  have e : hpF L r 0 = 0 := cif_f (fun z => z.1 rfl)
  rw [show (0 : Int) + 1 = 1 by decide, e, sI_0] at this
  exact this
theorem t_U_hairpins (hc : CC L σ) (hL : GW L) (hr : 0 ≤ r ∧ r < 4) (hw : RW L r) (nz : L (175 + 81 * r) ≠ 0) (h : K (sI (hpF L r) (L (175 + 81 * r) - 1)) σ) : q_U_hairpins r K σ := by
  have hRW := hw.resolve_left nz
  unfold q_U_hairpins q_U_steps
  refine ⟨fun v j s => s = σ ∧ 1 ≤ j ∧ j ≤ L (175 + 81 * r) - 1 ∧ v = sI (hpF L r) j ∧ 0 ≤ v ∧ v ≤ j, fun _ j _ => (40 - j).toNat, ⟨rfl, by decide, by omega, (hp_1 L r).symm, by decide, by decide⟩, ?_⟩
  rintro v j s ⟨rfl, j0, j1, ev, v0, v1⟩ - -
  refine t_L_roadSize hc hr ⟨zRi (by omega) (by omega), fun e => ?_, fun e => ?_⟩
  · rw [ev, show j = L (175 + 81 * r) - 1 by omega]
    exact h
  · have es := sI_s (hpF L r) (show 0 ≤ j by omega)
    have hp := hp_s L r j0
    refine t_U_bendAt hc hL hr hw nz j0 (by omega) (t_L_value (v := 3) hc (by decide) rfl ⟨fun c x ex => ?_, fun c x ex => ?_⟩)
    · rw [hp.2 c] at es
      exact ⟨⟨rfl, by omega, by omega, by omega, by omega, by omega⟩, zRi (by omega) (by omega), zRi (by omega) (by omega), by dsimp only; omega⟩
    · rw [hp.1 c] at es
      exact ⟨⟨rfl, by omega, by omega, by omega, by omega, by omega⟩, zRi (by omega) (by omega), zRi (by omega) (by omega), by dsimp only; omega⟩
theorem t_M_hairpins (hm : MM L A B σ) (hL : GW L) (hr : 0 ≤ r ∧ r < 4) (hw : RW L r) (nz : L (175 + 81 * r) ≠ 0) (h : K (sI (hpF L r) (L (175 + 81 * r) - 1)) σ) : q_M_hairpins r K σ := by
  have hRW := hw.resolve_left nz
  unfold q_M_hairpins
  refine ⟨fun v j s => s = σ ∧ 1 ≤ j ∧ j ≤ L (175 + 81 * r) - 1 ∧ v = sI (hpF L r) j ∧ 0 ≤ v ∧ v ≤ j, fun _ j _ => (40 - j).toNat, ⟨rfl, by decide, by omega, (hp_1 L r).symm, by decide, by decide⟩, ?_⟩
  rintro v j s ⟨rfl, j0, j1, ev, v0, v1⟩ - -
  refine t_M_many hm hr ⟨zRi (by omega) (by omega), fun e => ?_, fun e => ?_⟩
  · rw [ev, show j = L (175 + 81 * r) - 1 by omega]
    exact h
  · have es := sI_s (hpF L r) (show 0 ≤ j by omega)
    have hp := hp_s L r j0
    have hd := hw.hd (show 0 ≤ j by omega) (show j + 1 < L (175 + 81 * r) by omega)
    have hd' := hw.hd (show 0 ≤ j - 1 by omega) (by omega)
    refine ⟨zRi (by omega) (by omega), t_M_stepHeading hm hL hr hw (by omega) (by omega) (by omega) (t_M_stepHeading hm hL hr hw (by omega) (by omega) (by omega) (t_M_eighths hd'.1 hd.1 ?_))⟩
    rw [hm.1]
    refine ⟨fun c x ex => ?_, fun c x ex => ?_⟩
    · rw [hp.2 c] at es
      exact ⟨⟨rfl, by omega, by omega, by omega, by omega, by omega⟩, zRi (by omega) (by omega), zRi (by omega) (by omega), by dsimp only; omega⟩
    · rw [hp.1 c] at es
      exact ⟨⟨rfl, by omega, by omega, by omega, by omega, by omega⟩, zRi (by omega) (by omega), zRi (by omega) (by omega), by dsimp only; omega⟩
theorem t_U_firstBrokenStep (hc : CC L σ) (hL : GW L) (hr : 0 ≤ r ∧ r < 4) (hw : RW L r) (nz : L (175 + 81 * r) ≠ 0) (h : ∀ v, Fst (StyR L r) (L (175 + 81 * r) - 1) v → K v σ) : q_U_firstBrokenStep r K σ := by
  have hRW := hw.resolve_left nz
  unfold q_U_firstBrokenStep q_U_steps
  refine ⟨fun j s => s = σ ∧ 0 ≤ j ∧ j ≤ L (175 + 81 * r) - 1 ∧ ∀ k, 0 ≤ k → k < j → StyR L r k, fun j _ => (40 - j).toNat, ⟨rfl, by decide, by omega, fun k a b => by omega⟩, ?_⟩
  rintro j s ⟨rfl, j0, j1, hI⟩ -
  refine t_L_roadSize hc hr ⟨zRi (by omega) (by omega), fun e => h _ (Or.inl ⟨rfl, fun k a b => hI k a (by omega)⟩), fun e => ?_⟩
  have hd := hw.hd j0 (show j + 1 < L (175 + 81 * r) by omega)
  refine t_L_roadPlace hc hr ⟨j0, by omega⟩ (t_L_roadHeading hc hL hr hw j0 (by omega) (by omega) (t_L_canStep hc hL hd.2.2.1 hd.1 (fun z => n1b ⟨⟨rfl, by omega, by omega, fun k a b => ?_⟩, zRi (by omega) (by omega), by dsimp only; omega⟩) (fun z => n0b (h _ (Or.inr ⟨j0, e, z, hI⟩)))))
  by_cases ek : k = j
  · rw [ek]; exact z
  · exact hI k a (by omega)
theorem t_M_brokenStep (hm : MM L (-1) (-1) σ) (hL : GW L) (hr : 0 ≤ r ∧ r < 4) (hw : RW L r) (nz : L (175 + 81 * r) ≠ 0) (h : ∀ v, Fst (StyR L r) (L (175 + 81 * r) - 1) v → K v σ) : q_M_brokenStep r K σ := by
  have hRW := hw.resolve_left nz
  unfold q_M_brokenStep
  refine ⟨fun j s => s = σ ∧ 0 ≤ j ∧ j ≤ L (175 + 81 * r) - 1 ∧ ∀ k, 0 ≤ k → k < j → StyR L r k, fun j _ => (40 - j).toNat, ⟨rfl, by decide, by omega, fun k a b => by omega⟩, ?_⟩
  rintro j s ⟨rfl, j0, j1, hI⟩ -
  refine t_M_many hm hr ⟨zRi (by omega) (by omega), fun e => h _ (Or.inl ⟨rfl, fun k a b => hI k a (by omega)⟩), fun e => ?_⟩
  have hd := hw.hd j0 (show j + 1 < L (175 + 81 * r) by omega)
  refine t_M_placeAt hm hr ⟨j0, by omega⟩ (t_M_stepHeading hm hL hr hw j0 (by omega) (by omega) (t_M_canStep hm hL hd.2.2.1 hd.1 (fun z => n1b ⟨⟨rfl, by omega, by omega, fun k a b => ?_⟩, zRi (by omega) (by omega), by dsimp only; omega⟩) (fun z => n0b (h _ (Or.inr ⟨j0, e, z, hI⟩)))))
  by_cases ek : k = j
  · rw [ek]; exact z
  · exact hI k a (by omega)
theorem t_U_firstBrokenBend (hc : CC L σ) (hL : GW L) (hr : 0 ≤ r ∧ r < 4) (hw : RW L r) (nz : L (175 + 81 * r) ≠ 0) (h : ∀ v, Fst (BndR L r) (L (175 + 81 * r) - 1) v → K v σ) : q_U_firstBrokenBend r K σ := by
  have hRW := hw.resolve_left nz
  unfold q_U_firstBrokenBend q_U_steps
  refine ⟨fun j s => s = σ ∧ 1 ≤ j ∧ j ≤ L (175 + 81 * r) - 1 ∧ ∀ k, 0 ≤ k → k < j → BndR L r k, fun j _ => (40 - j).toNat, ⟨rfl, by decide, by omega, fun k a b => Or.inl (by omega)⟩, ?_⟩
  rintro j s ⟨rfl, j0, j1, hI⟩ -
  refine t_L_roadSize hc hr ⟨zRi (by omega) (by omega), fun e => h _ (Or.inl ⟨rfl, fun k a b => hI k a (by omega)⟩), fun e => ?_⟩
  have hd := hw.hd (show 0 ≤ j by omega) (show j + 1 < L (175 + 81 * r) by omega)
  have ok : BndR L r j → (s = s ∧ 1 ≤ j + 1 ∧ j + 1 ≤ L (175 + 81 * r) - 1 ∧ ∀ k, 0 ≤ k → k < j + 1 → BndR L r k) ∧ zR (j + 1) ∧ (40 - (j + 1)).toNat < (40 - j).toNat := fun z => by
    refine ⟨⟨rfl, by omega, by omega, fun k a b => ?_⟩, zRi (by omega) (by omega), by omega⟩
    by_cases ek : k = j
    · rw [ek]; exact z
    · exact hI k a (by omega)
  refine t_U_bendAt hc hL hr hw nz j0 (by omega) (t_L_value (v := 3) hc (by decide) rfl ⟨fun c => ok (Or.inr (Or.inl c)), fun c => t_L_roadPlace hc hr ⟨by omega, by omega⟩ (t_L_isFlat hc hL hd.2.2.1 (fun z => n1b (ok (Or.inr (Or.inr z)))) (fun z => n0b (h _ (Or.inr ⟨by omega, e, ?_, hI⟩))))⟩)
  rintro (q | q | q)
  · omega
  · omega
  · exact z q
theorem t_M_brokenBend (hm : MM L A B σ) (hL : GW L) (hr : 0 ≤ r ∧ r < 4) (hw : RW L r) (nz : L (175 + 81 * r) ≠ 0) (h : ∀ v, Fst (BndR L r) (L (175 + 81 * r) - 1) v → K v σ) : q_M_brokenBend r K σ := by
  have hRW := hw.resolve_left nz
  unfold q_M_brokenBend
  refine ⟨fun j s => s = σ ∧ 1 ≤ j ∧ j ≤ L (175 + 81 * r) - 1 ∧ ∀ k, 0 ≤ k → k < j → BndR L r k, fun j _ => (40 - j).toNat, ⟨rfl, by decide, by omega, fun k a b => Or.inl (by omega)⟩, ?_⟩
  rintro j s ⟨rfl, j0, j1, hI⟩ -
  refine t_M_many hm hr ⟨zRi (by omega) (by omega), fun e => h _ (Or.inl ⟨rfl, fun k a b => hI k a (by omega)⟩), fun e => ?_⟩
  have hd := hw.hd (show 0 ≤ j by omega) (show j + 1 < L (175 + 81 * r) by omega)
  have hd' := hw.hd (show 0 ≤ j - 1 by omega) (by omega)
  refine t_M_placeAt hm hr ⟨by omega, by omega⟩ ⟨zRi (by omega) (by omega), t_M_stepHeading hm hL hr hw (by omega) (by omega) (by omega) (t_M_stepHeading hm hL hr hw (by omega) (by omega) (by omega) (t_M_canBend hm hL hd.2.2.1 hd'.1 hd.1 (fun z => n1b ⟨⟨rfl, by omega, by omega, fun k a b => ?_⟩, zRi (by omega) (by omega), by dsimp only; omega⟩) (fun z => n0b (h _ (Or.inr ⟨by omega, e, ?_, hI⟩)))))⟩
  · by_cases ek : k = j
    · rw [ek]; exact Or.inr z
    · exact hI k a (by omega)
  · rintro (q | q)
    · omega
    · exact z q
theorem eo_b (hL : GW L) (hw : RW L r) (nz : L (175 + 81 * r) ≠ 0) (k0 : 0 ≤ k) (k1 : k < L (175 + 81 * r)) : 0 ≤ eoF L r k ∧ eoF L r k ≤ 27 := by
  have hRW := hw.resolve_left nz
  have a := (hRW.2.2.1 k k0 k1).2
  obtain ⟨t1, t2, t3, t4, t5, t6, t7, t8, t9, t10, t11, t12, t13, t14, t15, t16, t17, t18, t19, t20, -⟩ := hL.2.1
  unfold eoF
  have : L (216 + 81 * r + k) = -3 ∨ L (216 + 81 * r + k) = -2 ∨ L (216 + 81 * r + k) = -1 ∨ L (216 + 81 * r + k) = 0 ∨ L (216 + 81 * r + k) = 1 ∨ L (216 + 81 * r + k) = 2 ∨ L (216 + 81 * r + k) = 3 := by omega
  rcases this with e | e | e | e | e | e | e <;> rw [e] <;> simp only [reduceIte, Int.reduceLE, Int.reduceNeg] <;> omega
end TV
