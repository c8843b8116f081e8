/-! ===== what is said of a road: earth, offsets, levels, straight, steepest ===== -/
def eoV (L : Int → Int) (o : Int) : Int := if 0 ≤ o then o * L 11 else (-o) * L 10
theorem eoV_b {L : Int → Int} (hL : GW L) {o : Int} (h : -3 ≤ o ∧ o ≤ 3) : 0 ≤ eoV L o ∧ eoV L o ≤ 27 := by
  obtain ⟨t1, t2, t3, t4, t5, t6, t7, t8, t9, t10, t11, t12, t13, t14, t15, t16, t17, t18, t19, t20, -⟩ := hL.2.1
  unfold eoV
  have : o = -3 ∨ o = -2 ∨ o = -1 ∨ o = 0 ∨ o = 1 ∨ o = 2 ∨ o = 3 := by omega
  rcases this with e | e | e | e | e | e | e <;> rw [e] <;> simp only [reduceIte, Int.reduceLE, Int.reduceNeg] <;> omega
/-- a number no other exceeds, one of them -/
def Mx (f : Int → Int) (n v : Int) : Prop := (∃ k, 0 ≤ k ∧ k < n ∧ v = f k) ∧ ∀ k, 0 ≤ k → k < n → f k ≤ v
theorem Mx_uniq {f : Int → Int} {n v w : Int} (h1 : Mx f n v) (h2 : Mx f n w) : v = w := by
  obtain ⟨⟨k, k0, k1, e⟩, a⟩ := h1
  obtain ⟨⟨j, j0, j1, e'⟩, b⟩ := h2
  have := a j j0 j1
  have := b k k0 k1
  omega
theorem Mx_s {f : Int → Int} {n v : Int} (n0 : 0 ≤ n) (h : Mx f n v) : (f n ≤ v → Mx f (n + 1) v) ∧ (v < f n → Mx f (n + 1) (f n)) := by
  obtain ⟨⟨k, k0, k1, e⟩, a⟩ := h
  refine ⟨fun c => ⟨⟨k, k0, by omega, e⟩, fun j j0 j1 => ?_⟩, fun c => ⟨⟨n, n0, by omega, rfl⟩, fun j j0 j1 => ?_⟩⟩
  · by_cases ej : j = n
    · rw [ej]; exact c
    · exact a j j0 (by omega)
  · by_cases ej : j = n
    · rw [ej]; exact Int.le_refl _
    · have := a j j0 (by omega)
      omega
def sgF (L : Int → Int) (r sign k : Int) : Int := sign * lvF L r k
/-- the run of like headings that ends at a step, and the longest -/
def rnS (L : Int → Int) (r : Int) : Nat → Int
  | 0 => 0
  | n + 1 => if 0 < n ∧ rhd L r (n : Int) = rhd L r ((n : Int) - 1) then rnS L r n + 1 else 1
def mxS (L : Int → Int) (r : Int) : Nat → Int
  | 0 => 0
  | n + 1 => max (mxS L r n) (rnS L r (n + 1))
theorem rnS_b (L : Int → Int) (r : Int) : ∀ n : Nat, 0 ≤ rnS L r n ∧ rnS L r n ≤ n
  | 0 => ⟨show (0 : Int) ≤ 0 by decide, show (0 : Int) ≤ 0 by decide⟩
  | n + 1 => by
    have := rnS_b L r n
    unfold rnS
    split <;> omega
theorem mxS_b (L : Int → Int) (r : Int) : ∀ n : Nat, 0 ≤ mxS L r n ∧ mxS L r n ≤ n
  | 0 => ⟨show (0 : Int) ≤ 0 by decide, show (0 : Int) ≤ 0 by decide⟩
  | n + 1 => by
    have := mxS_b L r n
    have := rnS_b L r (n + 1)
    unfold mxS
    omega
theorem rnS_s (L : Int → Int) (r : Int) {k : Int} (h : 0 ≤ k) : (0 < k → rhd L r k = rhd L r (k - 1) → rnS L r (k + 1).toNat = rnS L r k.toNat + 1) ∧ ((k = 0 ∨ rhd L r k ≠ rhd L r (k - 1)) → rnS L r (k + 1).toNat = 1) := by
  obtain ⟨n, rfl⟩ : ∃ n : Nat, k = n := ⟨k.toNat, by omega⟩
  rw [show ((n : Int) + 1).toNat = n + 1 by omega, Int.toNat_natCast]
  constructor
  · intro a b
    show (if 0 < n ∧ rhd L r (n : Int) = rhd L r ((n : Int) - 1) then rnS L r n + 1 else 1) = _
    rw [if_pos ⟨by omega, b⟩]
  · intro a
    show (if 0 < n ∧ rhd L r (n : Int) = rhd L r ((n : Int) - 1) then rnS L r n + 1 else 1) = _
    rw [if_neg (fun z => a.elim (fun q => by have := z.1; omega) (fun q => q z.2))]
theorem mxS_s (L : Int → Int) (r : Int) {k : Int} (h : 0 ≤ k) : mxS L r (k + 1).toNat = max (mxS L r k.toNat) (rnS L r (k + 1).toNat) := by
  rw [show (k + 1).toNat = k.toNat + 1 by omega]
  rfl
theorem eig_0 {g h : Int} (g0 : 0 ≤ g ∧ g < 8) (h0 : 0 ≤ h ∧ h < 8) : eig g h = 0 ↔ h = g := by
  unfold eig
  split <;> split <;> omega
section TX
variable {K : Int → zS → Prop} {σ : zS} {L : Int → Int} {A B r k o : Int}
theorem t_G_earthOf (hc : CC L σ) (hL : GW L) (ho : -3 ≤ o ∧ o ≤ 3) (h : K (eoV L o) σ) : q_G_earthOf o K σ := by
  have b := eoV_b hL ho
  unfold eoV at h b
  unfold q_G_earthOf
  refine ⟨fun c => t_L_value (v := 11) hc (by decide) rfl ?_, fun c => t_L_value (v := 10) hc (by decide) rfl ?_⟩
  · rw [if_pos c] at h b
    exact ⟨zRi (by omega) (by omega), h⟩
  · rw [if_neg (by omega)] at h b
    exact ⟨zRi (by omega) (by omega), h⟩
theorem t_M_earthOf (hm : MM L A B σ) (hL : GW L) (ho : -3 ≤ o ∧ o ≤ 3) (h : K (eoV L o) σ) : q_M_earthOf o K σ := by
  have b := eoV_b hL ho
  unfold eoV at h b
  unfold q_M_earthOf
  rw [hm.1]
  refine ⟨fun c => ?_, fun c => ?_⟩
  · rw [if_pos c] at h b
    exact ⟨zRi (by omega) (by omega), h⟩
  · rw [if_neg (by omega)] at h b
    exact ⟨zRi (by omega) (by omega), h⟩
theorem t_U_earthTogether (hc : CC L σ) (hL : GW L) (hr : 0 ≤ r ∧ r < 4) (hw : RW L r) (nz : L (175 + 81 * r) ≠ 0) (h : K (sI (fun k => eoV L (L (216 + 81 * r + k))) (L (175 + 81 * r))) σ) : q_U_earthTogether r K σ := by
  have hRW := hw.resolve_left nz
  unfold q_U_earthTogether
  refine ⟨fun v j s => s = σ ∧ 0 ≤ j ∧ j ≤ L (175 + 81 * r) ∧ v = sI (fun k => eoV L (L (216 + 81 * r + k))) j ∧ 0 ≤ v ∧ v ≤ 27 * j, fun _ j _ => (40 - j).toNat, ⟨rfl, by decide, by omega, rfl, by decide, by decide⟩, ?_⟩
  rintro v j s ⟨rfl, j0, j1, ev, v0, v1⟩ - -
  refine t_L_roadSize hc hr ⟨fun e => ?_, fun e => ?_⟩
  · rw [ev, show j = L (175 + 81 * r) by omega]
    exact h
  · have ho := (hRW.2.2.1 j j0 e).2
    have b := eoV_b hL ho
    have es := sI_s (fun k => eoV L (L (216 + 81 * r + k))) j0
    exact t_L_roadOffset hc hr ⟨j0, by omega⟩ (t_G_earthOf hc hL ho (fun x ex => ⟨⟨rfl, by omega, by omega, by omega, by omega, by omega⟩, zRi (by omega) (by omega), zRi (by omega) (by omega), by dsimp only; omega⟩))
theorem t_M_earthNow (hm : MM L A B σ) (hL : GW L) (hr : 0 ≤ r ∧ r < 4) (hw : RW L r) (nz : L (175 + 81 * r) ≠ 0) (h : K (sI (fun k => eoV L (L (216 + 81 * r + k))) (L (175 + 81 * r))) σ) : q_M_earthNow r K σ := by
  have hRW := hw.resolve_left nz
  unfold q_M_earthNow
  refine ⟨fun v j s => s = σ ∧ 0 ≤ j ∧ j ≤ L (175 + 81 * r) ∧ v = sI (fun k => eoV L (L (216 + 81 * r + k))) j ∧ 0 ≤ v ∧ v ≤ 27 * j, fun _ j _ => (40 - j).toNat, ⟨rfl, by decide, by omega, rfl, by decide, by decide⟩, ?_⟩
  rintro v j s ⟨rfl, j0, j1, ev, v0, v1⟩ - -
  refine t_M_many hm hr ⟨fun e => ?_, fun e => ?_⟩
  · rw [ev, show j = L (175 + 81 * r) by omega]
    exact h
  · have ho := (hRW.2.2.1 j j0 e).2
    have b := eoV_b hL ho
    have es := sI_s (fun k => eoV L (L (216 + 81 * r + k))) j0
    exact t_M_offsetAt hm hr ⟨j0, by omega⟩ (t_M_earthOf hm hL ho (fun x ex => ⟨⟨rfl, by omega, by omega, by omega, by omega, by omega⟩, zRi (by omega) (by omega), zRi (by omega) (by omega), by dsimp only; omega⟩))
theorem t_U_offsetsTogether (hc : CC L σ) (hr : 0 ≤ r ∧ r < 4) (hw : RW L r) (nz : L (175 + 81 * r) ≠ 0) (h : K (sI (ofF L r) (L (175 + 81 * r))) σ) : q_U_offsetsTogether r K σ := by
  have hRW := hw.resolve_left nz
  unfold q_U_offsetsTogether
  refine ⟨fun v j s => s = σ ∧ 0 ≤ j ∧ j ≤ L (175 + 81 * r) ∧ v = sI (ofF L r) j ∧ -3 * j ≤ v ∧ v ≤ 3 * j, fun _ j _ => (40 - j).toNat, ⟨rfl, by decide, by omega, rfl, by decide, by decide⟩, ?_⟩
  rintro v j s ⟨rfl, j0, j1, ev, v0, v1⟩ - -
  refine t_L_roadSize hc hr ⟨fun e => ?_, fun e => ?_⟩
  · rw [ev, show j = L (175 + 81 * r) by omega]
    exact h
  · have ho := (hRW.2.2.1 j j0 e).2
    have es := sI_s (ofF L r) j0
    unfold ofF at es
    unfold ofF at ev
    exact t_L_roadOffset hc hr ⟨j0, by omega⟩ (fun x ex => ⟨⟨rfl, by omega, by omega, by unfold ofF; omega, by omega, by omega⟩, zRi (by omega) (by omega), zRi (by omega) (by omega), by dsimp only; omega⟩)
theorem t_M_offsets (hm : MM L A B σ) (hr : 0 ≤ r ∧ r < 4) (hw : RW L r) (nz : L (175 + 81 * r) ≠ 0) (h : K (sI (ofF L r) (L (175 + 81 * r))) σ) : q_M_offsets r K σ := by
  have hRW := hw.resolve_left nz
  unfold q_M_offsets
  refine ⟨fun v j s => s = σ ∧ 0 ≤ j ∧ j ≤ L (175 + 81 * r) ∧ v = sI (ofF L r) j ∧ -3 * j ≤ v ∧ v ≤ 3 * j, fun _ j _ => (40 - j).toNat, ⟨rfl, by decide, by omega, rfl, by decide, by decide⟩, ?_⟩
  rintro v j s ⟨rfl, j0, j1, ev, v0, v1⟩ - -
  refine t_M_many hm hr ⟨fun e => ?_, fun e => ?_⟩
  · rw [ev, show j = L (175 + 81 * r) by omega]
    exact h
  · have ho := (hRW.2.2.1 j j0 e).2
    have es := sI_s (ofF L r) j0
    unfold ofF at es
    unfold ofF at ev
    exact t_M_offsetAt hm hr ⟨j0, by omega⟩ (fun x ex => ⟨⟨rfl, by omega, by omega, by unfold ofF; omega, by omega, by omega⟩, zRi (by omega) (by omega), zRi (by omega) (by omega), by dsimp only; omega⟩)
theorem lv_b (hL : GW L) (hw : RW L r) (nz : L (175 + 81 * r) ≠ 0) (k0 : 0 ≤ k) (k1 : k < L (175 + 81 * r)) : -3 ≤ lvF L r k ∧ lvF L r k ≤ 102 := by
  have hRW := hw.resolve_left nz
  have a := hRW.2.2.1 k k0 k1
  have b := hL.2.2.1 _ a.1.1 (a.1.b hL).2
  unfold lvF
  omega
theorem t_U_levelAt (hc : CC L σ) (hL : GW L) (hr : 0 ≤ r ∧ r < 4) (hw : RW L r) (nz : L (175 + 81 * r) ≠ 0) (k0 : 0 ≤ k) (k1 : k < L (175 + 81 * r)) (h : K (lvF L r k) σ) : q_U_levelAt r k K σ := by
  have hRW := hw.resolve_left nz
  have b := lv_b hL hw nz k0 k1
  unfold lvF at b h
  unfold q_U_levelAt
  exact t_L_roadPlace hc hr ⟨k0, by omega⟩ (t_L_height hc hL (hRW.2.2.1 k k0 k1).1 (t_L_roadOffset hc hr ⟨k0, by omega⟩ ⟨zRi (by omega) (by omega), h⟩))
theorem t_M_levelAt (hm : MM L A B σ) (hL : GW L) (hr : 0 ≤ r ∧ r < 4) (hw : RW L r) (nz : L (175 + 81 * r) ≠ 0) (k0 : 0 ≤ k) (k1 : k < L (175 + 81 * r)) (h : K (lvF L r k) σ) : q_M_levelAt r k K σ := by
  have hRW := hw.resolve_left nz
  have b := lv_b hL hw nz k0 k1
  have ip := (hRW.2.2.1 k k0 k1).1.b hL
  unfold lvF at b h
  unfold q_M_levelAt
  refine t_M_placeAt hm hr ⟨k0, by omega⟩ ⟨by omega, t_M_offsetAt hm hr ⟨k0, by omega⟩ ?_⟩
  rw [hm.1]
  exact ⟨zRi (by omega) (by omega), h⟩
theorem t_U_greatestLevel {sign : Int} (hs : sign = 1 ∨ sign = -1) (hc : CC L σ) (hL : GW L) (hr : 0 ≤ r ∧ r < 4) (hw : RW L r) (nz : L (175 + 81 * r) ≠ 0) (h : ∀ v, Mx (sgF L r sign) (L (175 + 81 * r)) v → -102 ≤ v ∧ v ≤ 102 → K v σ) : q_U_greatestLevel r sign K σ := by
  have hRW := hw.resolve_left nz
  have sb : ∀ k, 0 ≤ k → k < L (175 + 81 * r) → -102 ≤ sgF L r sign k ∧ sgF L r sign k ≤ 102 := fun k k0 k1 => by
    have := lv_b hL hw nz k0 k1
    unfold sgF
    rcases hs with e | e <;> rw [e] <;> omega
  unfold q_U_greatestLevel
  refine ⟨fun v j s => s = σ ∧ 0 ≤ j ∧ j ≤ L (175 + 81 * r) ∧ ((j = 0 ∧ v = -1000000000) ∨ (0 < j ∧ Mx (sgF L r sign) j v ∧ -102 ≤ v ∧ v ≤ 102)), fun _ j _ => (40 - j).toNat, ⟨rfl, by decide, by omega, Or.inl ⟨rfl, rfl⟩⟩, ?_⟩
  rintro v j s ⟨rfl, j0, j1, hI⟩ - -
  refine t_L_roadSize hc hr ⟨fun e => ?_, fun e => ?_⟩
  · have hv := (hI.resolve_left (fun z => by have := z.1; omega)).2
    exact h v (by rw [show L (175 + 81 * r) = j by omega]; exact hv.1) hv.2
  · have b := sb j j0 e
    have es : sign * lvF L r j = sgF L r sign j := rfl
    refine t_U_levelAt hc hL hr hw nz j0 e ?_
    rw [es]
    refine ⟨zRi (by omega) (by omega), fun x ex => ⟨⟨rfl, by omega, by omega, Or.inr ⟨by omega, ?_⟩⟩, zRi (by omega) (by omega), by dsimp only; omega⟩⟩
    rcases hI with ⟨z1, z2⟩ | ⟨z0, z1, z2⟩
    · have ex' : x = sgF L r sign j := by omega
      refine ⟨⟨⟨j, j0, by omega, ex'⟩, fun i i0 i1 => ?_⟩, by omega⟩
      rw [show i = j by omega, ex']
      exact Int.le_refl _
    · have m := Mx_s j0 z1
      by_cases c : sgF L r sign j ≤ v
      · rw [show x = v by omega]
        exact ⟨m.1 c, z2⟩
      · rw [show x = sgF L r sign j by omega]
        exact ⟨m.2 (by omega), b⟩
theorem t_M_highest {hi : Int} (hm : MM L A B σ) (hL : GW L) (hr : 0 ≤ r ∧ r < 4) (hw : RW L r) (nz : L (175 + 81 * r) ≠ 0) (h : ∀ v, (hi ≠ 0 → Mx (sgF L r 1) (L (175 + 81 * r)) v) → (hi = 0 → Mx (sgF L r (-1)) (L (175 + 81 * r)) (-v)) → K v σ) : q_M_highest r hi K σ := by
  have hRW := hw.resolve_left nz
  have e1 : ∀ k, sgF L r 1 k = lvF L r k := fun k => by unfold sgF; omega
  have e2 : ∀ k, sgF L r (-1) k = -lvF L r k := fun k => by unfold sgF; omega
  unfold q_M_highest
  refine t_M_levelAt hm hL hr hw nz (by decide) (by omega) ?_
  refine ⟨fun v j s => s = σ ∧ 1 ≤ j ∧ j ≤ L (175 + 81 * r) ∧ (hi ≠ 0 → Mx (sgF L r 1) j v) ∧ (hi = 0 → Mx (sgF L r (-1)) j (-v)), fun _ j _ => (40 - j).toNat, ⟨rfl, by decide, by omega, fun _ => ⟨⟨0, by decide, by decide, (e1 0).symm⟩, fun i i0 i1 => ?_⟩, fun _ => ⟨⟨0, by decide, by decide, (e2 0).symm⟩, fun i i0 i1 => ?_⟩⟩, ?_⟩
  · rw [show i = 0 by omega, e1]
    exact Int.le_refl _
  · rw [show i = 0 by omega, e2]
    exact Int.le_refl _
  rintro v j s ⟨rfl, j0, j1, h1, h2⟩ - -
  refine t_M_many hm hr ⟨fun e => ?_, fun e => t_M_levelAt hm hL hr hw nz (by omega) e ⟨fun z => ⟨fun c => ⟨⟨rfl, by omega, by omega, fun q => absurd z q, fun _ => (Mx_s (by omega) (h2 z)).1 (by rw [e2]; omega)⟩, zRi (by omega) (by omega), by dsimp only; omega⟩, fun c => ⟨⟨rfl, by omega, by omega, fun q => absurd z q, fun _ => ?_⟩, zRi (by omega) (by omega), by dsimp only; omega⟩⟩, fun z => ⟨fun c => ⟨⟨rfl, by omega, by omega, fun _ => (Mx_s (by omega) (h1 z)).1 (by rw [e1]; omega), fun q => absurd q z⟩, zRi (by omega) (by omega), by dsimp only; omega⟩, fun c => ⟨⟨rfl, by omega, by omega, fun _ => ?_, fun q => absurd q z⟩, zRi (by omega) (by omega), by dsimp only; omega⟩⟩⟩⟩
  · have ej : j = L (175 + 81 * r) := by omega
    rw [ej] at h1 h2
    exact h v h1 h2
  · have := (Mx_s (by omega) (h2 z)).2 (by rw [e2]; omega)
    rw [e2] at this
    exact this
  · have := (Mx_s (by omega) (h1 z)).2 (by rw [e1]; omega)
    rw [e1] at this
    exact this
theorem t_U_longestStraight (hc : CC L σ) (hL : GW L) (hr : 0 ≤ r ∧ r < 4) (hw : RW L r) (nz : L (175 + 81 * r) ≠ 0) (h : K (mxS L r (L (175 + 81 * r) - 1).toNat) σ) : q_U_longestStraight r K σ := by
  have hRW := hw.resolve_left nz
  unfold q_U_longestStraight q_U_steps
  refine ⟨fun m n j s => s = σ ∧ 0 ≤ j ∧ j ≤ L (175 + 81 * r) - 1 ∧ m = mxS L r j.toNat ∧ n = rnS L r j.toNat, fun _ _ j _ => (40 - j).toNat, ⟨rfl, by decide, by omega, rfl, rfl⟩, ?_⟩
  rintro m n j s ⟨rfl, j0, j1, em, en⟩ - - -
  have hs := rnS_s L r j0
  have hx := mxS_s L r j0
  have b1 := rnS_b L r j.toNat
  refine t_L_roadSize hc hr ⟨zRi (by omega) (by omega), fun e => ?_, fun e => ⟨fun w t => t = s ∧ w = rnS L r (j + 1).toNat, fun w t ht _ x ex => ⟨⟨ht.1, by omega, by omega, ?_, ht.2⟩, zRi (by omega) (by omega), by dsimp only; omega⟩, fun t => t = s ∧ (j = 0 ∨ rhd L r j ≠ rhd L r (j - 1)), fun t ht => ⟨ht.1, (hs.2 ht.2).symm⟩, fun c => ⟨rfl, Or.inl (by omega)⟩, fun c => ?_⟩⟩
  · rw [em, show j = L (175 + 81 * r) - 1 by omega]
    exact h
  · rw [ex, hx, em, ht.2]
  · have hd := hw.hd (show 0 ≤ j by omega) (show j + 1 < L (175 + 81 * r) by omega)
    have hd' := hw.hd (show 0 ≤ j - 1 by omega) (by omega)
    have ez := eig_0 hd'.1 hd.1
    refine t_U_bendAt hc hL hr hw nz (by omega) (by omega) ⟨fun z => ⟨rfl, Or.inr (fun q => z (ez.mpr q))⟩, fun z => ⟨⟨rfl, ?_⟩, zRi (by omega) (by omega)⟩⟩
    rw [hs.1 c (ez.mp z), en]
theorem t_M_straight (hm : MM L A B σ) (hL : GW L) (hr : 0 ≤ r ∧ r < 4) (hw : RW L r) (nz : L (175 + 81 * r) ≠ 0) (h : K (mxS L r (L (175 + 81 * r) - 1).toNat) σ) : q_M_straight r K σ := by
  have hRW := hw.resolve_left nz
  unfold q_M_straight
  refine ⟨fun m n j s => s = σ ∧ 0 ≤ j ∧ j ≤ L (175 + 81 * r) - 1 ∧ m = mxS L r j.toNat ∧ n = rnS L r j.toNat, fun _ _ j _ => (40 - j).toNat, ⟨rfl, by decide, by omega, rfl, rfl⟩, ?_⟩
  rintro m n j s ⟨rfl, j0, j1, em, en⟩ - - -
  have hs := rnS_s L r j0
  have hx := mxS_s L r j0
  have b1 := rnS_b L r j.toNat
  refine t_M_many hm hr ⟨zRi (by omega) (by omega), fun e => ?_, fun e => ⟨fun w t => t = s ∧ w = rnS L r (j + 1).toNat, fun w t ht _ => ⟨fun c => ⟨⟨ht.1, by omega, by omega, by rw [hx, ← ht.2, ← em]; omega, ht.2⟩, zRi (by omega) (by omega), by dsimp only; omega⟩, fun c => ⟨⟨ht.1, by omega, by omega, by rw [hx, ← ht.2, ← em]; omega, ht.2⟩, zRi (by omega) (by omega), by dsimp only; omega⟩⟩, fun t => t = s ∧ (j = 0 ∨ rhd L r j ≠ rhd L r (j - 1)), fun t ht => ⟨ht.1, (hs.2 ht.2).symm⟩, fun c => ⟨rfl, Or.inl (by omega)⟩, fun c => t_M_stepHeading hm hL hr hw (by omega) (by omega) (by omega) ⟨zRi (by omega) (by omega), t_M_stepHeading hm hL hr hw (by omega) (by omega) (by omega) ⟨fun z => ⟨rfl, Or.inr z⟩, fun z => ⟨⟨rfl, ?_⟩, zRi (by omega) (by omega)⟩⟩⟩⟩⟩
  · rw [em, show j = L (175 + 81 * r) - 1 by omega]
    exact h
  · rw [hs.1 c z, en]
end TX
