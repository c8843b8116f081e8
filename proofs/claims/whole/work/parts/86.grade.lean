/-! ===== grading: the least earth behind a place ===== -/
def lsr (a b : Int) : Int := if a < b then a else b
/-- the least of n numbers, from INF on -/
def gm (f : Int → Int) (lo : Int) : Nat → Int
  | 0 => 1000000000
  | n + 1 => lsr (gm f lo n) (f (lo + n))
/-- may a step of the road go from offset a to offset b under the rule? -/
def Rl (L : Int → Int) (r rule k a b : Int) : Prop := 100 * (if L (13 + L (176 + 81 * r + k)) + a < L (13 + L (176 + 81 * r + (k + 1))) + b then L (13 + L (176 + 81 * r + (k + 1))) + b - (L (13 + L (176 + 81 * r + k)) + a) else L (13 + L (176 + 81 * r + k)) + a - (L (13 + L (176 + 81 * r + (k + 1))) + b)) ≤ rule * lng (rhd L r k)
/-- the earth of what is behind place k, n places: from offset o and sum s there -/
noncomputable def Gd (L : Int → Int) (r rule : Int) : Nat → Int → Int → Int → Int
  | 0, _, _, s => if -L 12 ≤ s ∧ s ≤ L 12 then 0 else 1000000000
  | n + 1, k, o, s => gm (fun b => cif (Rl L r rule k o b ∧ Gd L r rule n (k + 1) b (s + b) < 1000000000) (Gd L r rule n (k + 1) b (s + b) + eoV L b) 1000000000) (-L 9) (2 * L 9 + 1).toNat
noncomputable def Gn (L : Int → Int) (r rule n k o b s : Int) : Int := cif (Rl L r rule k o b ∧ Gd L r rule n.toNat (k + 1) b (s + b) < 1000000000) (Gd L r rule n.toNat (k + 1) b (s + b) + eoV L b) 1000000000
theorem gm_b {f : Int → Int} {lo : Int} {M : Int} (h0 : 0 ≤ M) : ∀ n : Nat, (∀ i : Nat, i < n → (0 ≤ f (lo + i) ∧ f (lo + i) ≤ M) ∨ f (lo + i) = 1000000000) → (0 ≤ gm f lo n ∧ gm f lo n ≤ M) ∨ gm f lo n = 1000000000
  | 0, _ => Or.inr rfl
  | n + 1, h => by
    have a := gm_b h0 n (fun i hi => h i (by omega))
    have b := h n (by omega)
    unfold gm lsr
    split <;> omega
theorem Gd_b {L : Int → Int} {r rule : Int} (hL : GW L) : ∀ (n : Nat) (k o s : Int), (0 ≤ Gd L r rule n k o s ∧ Gd L r rule n k o s ≤ 27 * (n : Int)) ∨ Gd L r rule n k o s = 1000000000
  | 0, k, o, s => by
    unfold Gd
    split
    · exact Or.inl ⟨by decide, by decide⟩
    · exact Or.inr rfl
  | n + 1, k, o, s => by
    have h9 := hL.2.1
    unfold Gd
    refine gm_b (by omega) _ (fun i hi => ?_)
    have ih := Gd_b (r := r) (rule := rule) hL n (k + 1) (-L 9 + i) (s + (-L 9 + i))
    have b := eoV_b hL (o := -L 9 + i) (by omega)
    by_cases c : Rl L r rule k o (-L 9 + i) ∧ Gd L r rule n (k + 1) (-L 9 + i) (s + (-L 9 + i)) < 1000000000
    · rw [cif_t c]
      have := c.2
      omega
    · rw [cif_f c]
      exact Or.inr rfl
theorem Gd_s {L : Int → Int} {r rule : Int} {n : Int} (hn : 0 < n) (k o s : Int) : Gd L r rule n.toNat k o s = gm (fun b => Gn L r rule (n - 1) k o b s) (-L 9) (2 * L 9 + 1).toNat := by
  rw [show n.toNat = (n - 1).toNat + 1 by omega]
  rfl
theorem gm_s (f : Int → Int) (lo : Int) {y : Int} (h : lo ≤ y) : gm f lo (y + 1 - lo).toNat = lsr (gm f lo (y - lo).toNat) (f y) := by
  rw [show (y + 1 - lo).toNat = (y - lo).toNat + 1 by omega]
  show lsr _ (f (lo + ((y - lo).toNat : Int))) = _
  rw [show lo + ((y - lo).toNat : Int) = y by omega]
theorem gm_0 (f : Int → Int) (lo : Int) : gm f lo (lo - lo).toNat = 1000000000 := by
  rw [show (lo - lo).toNat = 0 by omega]
  rfl
section TG
variable {K : Int → zS → Prop} {σ : zS} {L : Int → Int} {A B r rule k a b : Int}
theorem t_M_isRuled (hm : MM L A B σ) (hL : GW L) (hr : 0 ≤ r ∧ r < 4) (hw : RW L r) (nz : L (175 + 81 * r) ≠ 0) (hrl : 0 ≤ rule ∧ rule ≤ 99) (k0 : 0 ≤ k) (k1 : k + 1 < L (175 + 81 * r)) (ha : -3 ≤ a ∧ a ≤ 3) (hb : -3 ≤ b ∧ b ≤ 3) (hT : Rl L r rule k a b → K 1 σ) (hF : ¬ Rl L r rule k a b → K 0 σ) : q_M_isRuled r k a b rule K σ := by
  have hRW := hw.resolve_left nz
  have hd := hw.hd k0 k1
  have ha' := hL.2.2.1 _ hd.2.2.1.1 (hd.2.2.1.b hL).2
  have hb' := hL.2.2.1 _ hd.2.2.2.1 (hd.2.2.2.b hL).2
  have i1 := hd.2.2.1.b hL
  have i2 := hd.2.2.2.b hL
  unfold Rl at hT hF
  unfold q_M_isRuled
  refine t_M_placeAt hm hr ⟨k0, by omega⟩ ⟨by omega, zRi (by omega) (by omega), t_M_placeAt hm hr ⟨by omega, by omega⟩ ⟨by omega, ?_⟩⟩
  rw [hm.1]
  refine ⟨zRi (by omega) (by omega), zRi (by omega) (by omega), t_M_apart (zRi (by omega) (by omega)) (t_M_stepHeading hm hL hr hw k0 k1 (by omega) (t_M_longOf hd.1 ?_))⟩
  have hz : 0 ≤ rule * lng (rhd L r k) ∧ rule * lng (rhd L r k) ≤ 1386 := by
    rcases lng_or (rhd L r k) with e | e <;> rw [e] <;> omega
  exact ⟨zRi (by omega) (by omega), zRi (by omega) (by omega), fun c => hF (by omega), fun c => hT c⟩
end TG
/-- the reference's earths are laid, of places above k, of offsets below o at k, of sums below s at that offset -/
def EB (L : Int → Int) (r rule k o s : Int) (τ : zS) : Prop := ∀ k' o' s', 0 ≤ k' → k ≤ k' → k' < L (175 + 81 * r) → -L 9 ≤ o' → o' ≤ L 9 → -3 * k' - 3 ≤ s' → s' ≤ 3 * k' + 3 → (k < k' ∨ o' < o ∨ (o' = o ∧ s' < s)) → τ 55 (((k' * 7 + o' + 3) * 246) + s' + 123) = Gd L r rule (L (175 + 81 * r) - 1 - k').toNat k' o' s'
theorem gm_le (f : Int → Int) (lo : Int) : ∀ n : Nat, gm f lo n ≤ 1000000000
  | 0 => Int.le_refl _
  | n + 1 => by
    have := gm_le f lo n
    unfold gm lsr
    split <;> omega
theorem lsr_i {a : Int} (h : a ≤ 1000000000) : lsr a 1000000000 = a := by
  unfold lsr
  split <;> omega
theorem t_M_laysEarth {K : zS → Prop} {σ : zS} {L : Int → Int} {A B r rule : Int} (hm : MM L A B σ) (hL : GW L) (hr : 0 ≤ r ∧ r < 4) (hw : RW L r) (nz : L (175 + 81 * r) ≠ 0) (hrl : 0 ≤ rule ∧ rule ≤ 99) (h : ∀ τ, zQ [55] σ τ → EB L r rule (-1) 0 0 τ → K τ) : q_M_laysEarth r rule K σ := by
  have hRW := hw.resolve_left nz
  have h9 : 0 ≤ L 9 ∧ L 9 ≤ 3 := by have := hL.2.1; omega
  have h12 : 0 ≤ L 12 ∧ L 12 ≤ 30 := by have := hL.2.1; omega
  unfold q_M_laysEarth
  intro x2 e2
  rw [hm.1] at e2
  refine t_M_many hm hr (fun x5 e5 => ?_)
  refine ⟨fun k s => zQ [55] σ s ∧ -1 ≤ k ∧ k ≤ L (175 + 81 * r) - 1 ∧ EB L r rule k (-L 9) (-3 * k - 3) s, fun k _ => (k + 1).toNat, ⟨⟨zQ_r _ _, by omega, by omega, fun k' o' s' a1 a2 a3 a4 a5 a6 a7 a8 => by omega⟩, zRi (by omega) (by omega)⟩, ?_⟩
  rintro k s7 ⟨hq7, k0, k1, hE7⟩ -
  refine ⟨fun c => h s7 hq7 (fun k' o' s' a1 a2 a3 a4 a5 a6 a7 a8 => hE7 k' o' s' a1 (by omega) a3 a4 a5 a6 a7 (Or.inl (by omega))), fun k0 x10 e10 => ?_⟩
  refine ⟨fun o s => zQ [55] σ s ∧ -L 9 ≤ o ∧ o ≤ L 9 + 1 ∧ EB L r rule k o (-3 * k - 3) s, fun o _ => (L 9 + 1 - o).toNat, ⟨⟨hq7, by omega, by omega, by rw [e10, e2]; exact hE7⟩, zRi (by omega) (by omega)⟩, ?_⟩
  rintro o s12 ⟨hq12, o0, o1, hE12⟩ -
  refine ⟨fun c => ⟨⟨hq12, by omega, by omega, fun k' o' s' a1 a2 a3 a4 a5 a6 a7 a8 => ?_⟩, zRi (by omega) (by omega), by dsimp only; omega⟩, fun c x17 e17 => ?_⟩
  · refine hE12 k' o' s' a1 (by omega) a3 a4 a5 a6 a7 ?_
    by_cases ek : k' = k
    · exact Or.inr (Or.inl (by omega))
    · exact Or.inl (by omega)
  refine ⟨fun m s => zQ [55] σ s ∧ -3 * k - 3 ≤ m ∧ m ≤ 3 * k + 4 ∧ EB L r rule k o m s, fun m _ => (3 * k + 4 - m).toNat, ⟨⟨hq12, by omega, by omega, by rw [e17]; exact hE12⟩, zRi (by omega) (by omega)⟩, ?_⟩
  rintro m s19 ⟨hq, m0, m1, hE⟩ -
  have hms := MM_Q hm hq (by decide)
  refine ⟨zRi (by omega) (by omega), fun c2 => ⟨⟨hq, by omega, by omega, fun k' o' s' a1 a2 a3 a4 a5 a6 a7 a8 => ?_⟩, zRi (by omega) (by omega), by dsimp only; omega⟩, fun c2 => ?_⟩
  · refine hE k' o' s' a1 a2 a3 a4 a5 a6 a7 ?_
    by_cases ek : k' = k
    · by_cases eo : o' = o
      · exact Or.inr (Or.inr ⟨eo, by omega⟩)
      · exact Or.inr (Or.inl (by omega))
    · exact Or.inl (by omega)
  have wr : ∀ (w : Int) (s33 : zS), (s33 = s19 ∧ w = Gd L r rule (L (175 + 81 * r) - 1 - k).toNat k o m) → q_M_cell k o m (fun r35 s34 => (0 ≤ r35 ∧ r35 < 68880) ∧ (∀ s37 : zS, s37 = zU s34 55 r35 w → (zQ [55] σ s37 ∧ -3 * k - 3 ≤ m + 1 ∧ m + 1 ≤ 3 * k + 4 ∧ EB L r rule k o (m + 1) s37) ∧ zR (m + 1) ∧ (3 * k + 4 - (m + 1)).toNat < (3 * k + 4 - m).toNat)) s33 := by
    rintro w s33 ⟨rfl, ew⟩
    unfold q_M_cell
    refine ⟨zRi (by omega) (by omega), by omega, fun s37 e37 => ⟨⟨by rw [e37]; exact zQ_t hq (zQ_U (by decide)), by omega, by omega, fun k' o' s' a1 a2 a3 a4 a5 a6 a7 a8 => ?_⟩, zRi (by omega) (by omega), by omega⟩⟩
    rw [e37, zU_if]
    by_cases ei : (k' * 7 + o' + 3) * 246 + s' + 123 = (k * 7 + o + 3) * 246 + m + 123
    · rw [if_pos ei, ew]
      have q1 : k' = k := by omega
      have q2 : o' = o := by omega
      have q3 : s' = m := by omega
      rw [q1, q2, q3]
    · rw [if_neg ei]
      refine hE k' o' s' a1 a2 a3 a4 a5 a6 a7 ?_
      rcases a8 with z | z | ⟨z1, z2⟩
      · exact Or.inl z
      · exact Or.inr (Or.inl z)
      · by_cases ek : k' = k
        · by_cases es : s' = m
          · exact absurd (by rw [ek, z1, es]) ei
          · exact Or.inr (Or.inr ⟨z1, by omega⟩)
        · exact Or.inl (by omega)
  refine ⟨zRi (by omega) (by omega), fun ne x27 e27 => ?_, fun ee => ?_⟩
  · refine ⟨fun best b t => t = s19 ∧ -L 9 ≤ b ∧ b ≤ L 9 + 1 ∧ best = gm (fun b => Gn L r rule (L (175 + 81 * r) - 1 - k - 1) k o b m) (-L 9) (b - -L 9).toNat, fun _ b _ => (L 9 + 1 - b).toNat, ⟨⟨rfl, by omega, by omega, by rw [e27, e2]; exact (gm_0 _ _).symm⟩, zRi (by omega) (by omega)⟩, ?_⟩
    rintro best b t ⟨rfl, b0, b1, eb⟩ - -
    have gl := gm_le (fun b => Gn L r rule (L (175 + 81 * r) - 1 - k - 1) k o b m) (-L 9) (b - -L 9).toNat
    have gs := gm_s (fun b => Gn L r rule (L (175 + 81 * r) - 1 - k - 1) k o b m) (-L 9) b0
    rw [← eb] at gl gs
    refine ⟨fun w s => s = t ∧ w = Gd L r rule (L (175 + 81 * r) - 1 - k).toNat k o m, fun w s hw _ => wr w s hw, fun c3 => ⟨rfl, ?_⟩, fun c3 => ⟨fun c4 => absurd c4 (by omega), fun c4 => ?_⟩⟩
    · rw [Gd_s (by omega), eb, show (b - -L 9).toNat = (2 * L 9 + 1).toNat by omega]
    · have keep : Gn L r rule (L (175 + 81 * r) - 1 - k - 1) k o b m = 1000000000 → (t = t ∧ -L 9 ≤ b + 1 ∧ b + 1 ≤ L 9 + 1 ∧ best = gm (fun b => Gn L r rule (L (175 + 81 * r) - 1 - k - 1) k o b m) (-L 9) (b + 1 - -L 9).toNat) ∧ zR (b + 1) ∧ (L 9 + 1 - (b + 1)).toNat < (L 9 + 1 - b).toNat := fun z => by
        rw [z, lsr_i gl] at gs
        exact ⟨⟨rfl, by omega, by omega, gs.symm⟩, zRi (by omega) (by omega), by omega⟩
      refine t_M_isRuled hms hL hr hw nz hrl k0 (by omega) (by omega) (by omega) (fun rl => n1b ⟨zRi (by omega) (by omega), zRi (by omega) (by omega), ?_⟩) (fun rl => n0b (keep (cif_f (fun z => rl z.1))))
      unfold q_M_cell
      refine ⟨zRi (by omega) (by omega), by omega, fun x51 e51 => ?_⟩
      rw [hE (k + 1) b (m + b) (by omega) (by omega) (by omega) (by omega) (by omega) (by omega) (by omega) (Or.inl (by omega)), show (L (175 + 81 * r) - 1 - (k + 1)).toNat = (L (175 + 81 * r) - 1 - k - 1).toNat by omega] at e51
      have gb := Gd_b (r := r) (rule := rule) hL (L (175 + 81 * r) - 1 - k - 1).toNat (k + 1) b (m + b)
      have eob := eoV_b hL (o := b) (by omega)
      refine ⟨fun c5 => keep (cif_f (fun z => by have := z.2; omega)), fun c5 => t_M_earthOf hms hL (by omega) ⟨zRi (by omega) (by omega), t_M_lesser ⟨⟨rfl, by omega, by omega, ?_⟩, zRi (by omega) (by omega), by dsimp only; omega⟩⟩⟩
      have ev : Gn L r rule (L (175 + 81 * r) - 1 - k - 1) k o b m = x51 + eoV L b := by
        unfold Gn
        rw [cif_t ⟨rl, by omega⟩, e51]
      rw [gs, ev]
      rfl
  · have g0 : Gd L r rule (L (175 + 81 * r) - 1 - k).toNat k o m = if -L 12 ≤ m ∧ m ≤ L 12 then 0 else 1000000000 := by
      rw [show (L (175 + 81 * r) - 1 - k).toNat = 0 by omega]
      rfl
    rw [hms.1]
    refine ⟨zRi (by omega) (by omega), t_M_isIn (fun c3 c4 => n1a (fun x107 e107 => ?_)) (fun c3 => n0a (fun x70 e70 => ?_))⟩
    · refine ⟨fun best b t => t = s19 ∧ best = 0, fun _ b _ => 0, ⟨⟨rfl, rfl⟩, zRi (by omega) (by omega)⟩, ?_⟩
      rintro best b t ⟨rfl, rfl⟩ - -
      have ew : (0 : Int) = Gd L r rule (L (175 + 81 * r) - 1 - k).toNat k o m := by rw [g0, if_pos ⟨c3, c4⟩]
      exact ⟨fun w s => s = t ∧ w = Gd L r rule (L (175 + 81 * r) - 1 - k).toNat k o m, fun w s hw _ => wr w s hw, fun _ => ⟨rfl, ew⟩, fun _ => ⟨fun _ => ⟨rfl, ew⟩, fun c5 => absurd c5 (by omega)⟩⟩
    · refine ⟨fun best b t => t = s19 ∧ best = 1000000000, fun _ b _ => 0, ⟨⟨rfl, rfl⟩, zRi (by omega) (by omega)⟩, ?_⟩
      rintro best b t ⟨rfl, rfl⟩ - -
      have ew : (1000000000 : Int) = Gd L r rule (L (175 + 81 * r) - 1 - k).toNat k o m := by rw [g0, if_neg c3]
      exact ⟨fun w s => s = t ∧ w = Gd L r rule (L (175 + 81 * r) - 1 - k).toNat k o m, fun w s hw _ => wr w s hw, fun _ => ⟨rfl, ew⟩, fun _ => ⟨fun _ => ⟨rfl, ew⟩, fun c5 => absurd c5 (by omega)⟩⟩
