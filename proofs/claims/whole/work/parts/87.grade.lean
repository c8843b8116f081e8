/-! ===== grading: what the class looks up ===== -/
noncomputable def Gr (L : Int → Int) (r rule b : Int) : Int := cif (Gd L r rule (L (175 + 81 * r) - 1).toNat 0 b b < 1000000000) (Gd L r rule (L (175 + 81 * r) - 1).toNat 0 b b + eoV L b) 1000000000
/-- the least earth -/
noncomputable def Gt (L : Int → Int) (r rule : Int) : Int := gm (Gr L r rule) (-L 9) (2 * L 9 + 1).toNat
theorem t_M_grading {K : Int → zS → Prop} {σ : zS} {L : Int → Int} {A B r rule : Int} (hm : MM L A B σ) (hL : GW L) (hr : 0 ≤ r ∧ r < 4) (hw : RW L r) (nz : L (175 + 81 * r) ≠ 0) (hrl : 0 ≤ rule ∧ rule ≤ 99) (h : ∀ τ, zQ [55] σ τ → EB L r rule (-1) 0 0 τ → K (Gt L r rule) τ) : q_M_grading r rule K σ := by
  have hRW := hw.resolve_left nz
  have h9 : 0 ≤ L 9 ∧ L 9 ≤ 3 := by have := hL.2.1; omega
  unfold q_M_grading
  refine t_M_laysEarth hm hL hr hw nz hrl (fun τ hq hE x3 e3 => ?_)
  have hms := MM_Q hm hq (by decide)
  rw [hms.1] at e3
  refine ⟨fun best b t => t = τ ∧ -L 9 ≤ b ∧ b ≤ L 9 + 1 ∧ best = gm (Gr L r rule) (-L 9) (b - -L 9).toNat, fun _ b _ => (L 9 + 1 - b).toNat, ⟨⟨rfl, by omega, by omega, by rw [e3]; exact (gm_0 _ _).symm⟩, zRi (by omega) (by omega)⟩, ?_⟩
  rintro best b t ⟨rfl, b0, b1, eb⟩ - -
  have gl := gm_le (Gr L r rule) (-L 9) (b - -L 9).toNat
  have gs := gm_s (Gr L r rule) (-L 9) b0
  rw [← eb] at gl gs
  rw [hms.1]
  refine ⟨fun c => ?_, fun c => ?_⟩
  · have e : best = Gt L r rule := by
      rw [eb, show (b - -L 9).toNat = (2 * L 9 + 1).toNat by omega]
      rfl
    rw [e]
    exact h t hq hE
  unfold q_M_cell
  refine ⟨zRi (by omega) (by omega), by omega, fun x14 e14 => ?_⟩
  rw [hE 0 b b (by omega) (by omega) (by omega) (by omega) (by omega) (by omega) (by omega) (Or.inl (by omega)), show (L (175 + 81 * r) - 1 - 0).toNat = (L (175 + 81 * r) - 1).toNat by omega] at e14
  have gb := Gd_b (r := r) (rule := rule) hL (L (175 + 81 * r) - 1).toNat 0 b b
  have eob := eoV_b hL (o := b) (by omega)
  refine ⟨fun c5 => ⟨⟨rfl, by omega, by omega, ?_⟩, zRi (by omega) (by omega), by dsimp only; omega⟩, fun c5 => t_M_earthOf hms hL (by omega) ⟨zRi (by omega) (by omega), t_M_lesser ⟨⟨rfl, by omega, by omega, ?_⟩, zRi (by omega) (by omega), by dsimp only; omega⟩⟩⟩
  · have ev : Gr L r rule b = 1000000000 := cif_f (by omega)
    rw [ev, lsr_i gl] at gs
    exact gs.symm
  · have ev : Gr L r rule b = x14 + eoV L b := by
      unfold Gr
      rw [cif_t (by omega), e14]
    rw [gs, ev]
    rfl
theorem gm_min (f : Int → Int) (lo : Int) : ∀ n : Nat, (∀ i : Nat, i < n → gm f lo n ≤ f (lo + i)) ∧ (gm f lo n = 1000000000 ∨ ∃ i : Nat, i < n ∧ gm f lo n = f (lo + i))
  | 0 => ⟨fun i hi => absurd hi (Nat.not_lt_zero _), Or.inl rfl⟩
  | n + 1 => by
    obtain ⟨a, b⟩ := gm_min f lo n
    show (∀ i : Nat, i < n + 1 → lsr (gm f lo n) (f (lo + n)) ≤ f (lo + i)) ∧ (lsr (gm f lo n) (f (lo + n)) = 1000000000 ∨ ∃ i : Nat, i < n + 1 ∧ lsr (gm f lo n) (f (lo + n)) = f (lo + i))
    unfold lsr
    split
    · refine ⟨fun i hi => ?_, ?_⟩
      · by_cases e : i = n
        · rw [e]; omega
        · exact a i (by omega)
      · rcases b with z | ⟨i, i1, i2⟩
        · exact Or.inl z
        · exact Or.inr ⟨i, by omega, i2⟩
    · refine ⟨fun i hi => ?_, Or.inr ⟨n, by omega, rfl⟩⟩
      by_cases e : i = n
      · rw [e]; exact Int.le_refl _
      · have := a i (by omega)
        omega
/-- the first of the least, 4 if none is below INF -/
def Am (f : Int → Int) (lo hi v : Int) : Prop := (v = 4 ∧ ∀ b, lo ≤ b → b ≤ hi → 1000000000 ≤ f b) ∨ (lo ≤ v ∧ v ≤ hi ∧ f v < 1000000000 ∧ (∀ b, lo ≤ b → b ≤ hi → f v ≤ f b) ∧ ∀ b, lo ≤ b → b < v → f v < f b)
theorem Am_gm {f : Int → Int} {d v : Int} (hd : 0 ≤ d ∧ d ≤ 3) (h : Am f (-d) d v) : (v = 4 ∧ gm f (-d) (2 * d + 1).toNat = 1000000000) ∨ (v ≠ 4 ∧ gm f (-d) (2 * d + 1).toNat = f v) := by
  obtain ⟨a, b⟩ := gm_min f (-d) (2 * d + 1).toNat
  have a' : ∀ x, -d ≤ x → x ≤ d → gm f (-d) (2 * d + 1).toNat ≤ f x := fun x x0 x1 => by
    have := a (x + d).toNat (by omega)
    rw [show -d + ((x + d).toNat : Int) = x by omega] at this
    exact this
  have le := gm_le f (-d) (2 * d + 1).toNat
  rcases h with ⟨e, z⟩ | ⟨z0, z1, z2, z3, z4⟩
  · refine Or.inl ⟨e, ?_⟩
    rcases b with w | ⟨i, i1, i2⟩
    · exact w
    · have := z (-d + i) (by omega) (by omega)
      omega
  · refine Or.inr ⟨by omega, ?_⟩
    have q := a' v z0 z1
    rcases b with w | ⟨i, i1, i2⟩
    · omega
    · have := z3 (-d + i) (by omega) (by omega)
      omega
/-- what a sum may be at a place -/
def bdF (L : Int → Int) (r k : Int) : Int := min 75 (min (L 9 * (k + 1)) (L 12 + L 9 * (L (175 + 81 * r) - 1 - k)))
theorem bd_or {L : Int → Int} (hL : GW L) (r k : Int) : (L 9 = 0 ∧ bdF L r k = min 75 (min 0 (L 12))) ∨ (L 9 = 1 ∧ bdF L r k = min 75 (min (k + 1) (L 12 + (L (175 + 81 * r) - 1 - k)))) ∨ (L 9 = 2 ∧ bdF L r k = min 75 (min (2 * (k + 1)) (L 12 + 2 * (L (175 + 81 * r) - 1 - k)))) ∨ (L 9 = 3 ∧ bdF L r k = min 75 (min (3 * (k + 1)) (L 12 + 3 * (L (175 + 81 * r) - 1 - k)))) := by
  have h9 := hL.2.1
  unfold bdF
  have : L 9 = 0 ∨ L 9 = 1 ∨ L 9 = 2 ∨ L 9 = 3 := by omega
  rcases this with e | e | e | e <;> rw [e] <;> omega
theorem Gd_inf {L : Int → Int} {r rule : Int} (hL : GW L) : ∀ (n : Nat) (k o s : Int), (s < -(L 12 + L 9 * n) ∨ L 12 + L 9 * n < s) → Gd L r rule n k o s = 1000000000
  | 0, k, o, s, h => by
    unfold Gd
    rw [if_neg]
    intro z
    simp only [Int.ofNat_zero, Int.mul_zero] at h
    omega
  | n + 1, k, o, s, h => by
    have h9 := hL.2.1
    have em : L 9 * ((n + 1 : Nat) : Int) = L 9 * n + L 9 := by
      rw [Int.natCast_add, Int.mul_add]
      simp
    rw [em] at h
    have f1 : ∀ b, -L 9 ≤ b → b ≤ L 9 → cif (Rl L r rule k o b ∧ Gd L r rule n (k + 1) b (s + b) < 1000000000) (Gd L r rule n (k + 1) b (s + b) + eoV L b) 1000000000 = 1000000000 := fun b b0 b1 => by
      refine cif_f (fun z => ?_)
      have := Gd_inf (r := r) (rule := rule) hL n (k + 1) b (s + b) (by omega)
      have := z.2
      omega
    unfold Gd
    rcases (gm_min (fun b => cif (Rl L r rule k o b ∧ Gd L r rule n (k + 1) b (s + b) < 1000000000) (Gd L r rule n (k + 1) b (s + b) + eoV L b) 1000000000) (-L 9) (2 * L 9 + 1).toNat).2 with z | ⟨i, i1, i2⟩
    · exact z
    · rw [i2]
      exact f1 (-L 9 + i) (by omega) (by omega)
/-- earth of an offset and of what is behind it -/
noncomputable def Cv (L : Int → Int) (r rule k o s : Int) : Int := cif (Gd L r rule (L (175 + 81 * r) - 1 - k).toNat k o s < 1000000000) (eoV L o + Gd L r rule (L (175 + 81 * r) - 1 - k).toNat k o s) 1000000000
