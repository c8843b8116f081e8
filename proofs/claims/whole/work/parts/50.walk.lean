/-! ===== the class's way ===== -/
def LkP (d : Int → Int) (ly p m : Int) : Prop := 0 ≤ m ∧ m ≤ 1000000000 ∧ (∀ l g, 0 ≤ l → l < ly → 0 ≤ g → g < 8 → m ≤ d (l * 648 + (8 * p + g))) ∧ (m = 1000000000 ∨ ∃ l g, (0 ≤ l ∧ l < ly) ∧ (0 ≤ g ∧ g < 8) ∧ m = d (l * 648 + (8 * p + g)))
theorem t_W_leastKey {K : Int → zS → Prop} {σ : zS} {ly p : Int} (h15 : σ 15 12 = ly) (hly : 1 ≤ ly ∧ ly ≤ 4) (hp : 0 ≤ p ∧ p < 81) (hb : ∀ v : Int, 0 ≤ v → v < ly * 648 → 0 ≤ σ 22 v ∧ σ 22 v ≤ 1000000000) (h : ∀ m, LkP (σ 22) ly p m → K m σ) : q_W_leastKey p K σ := by
  unfold q_W_leastKey
  refine ⟨fun m y s => s = σ ∧ 0 ≤ y ∧ y ≤ ly ∧ 0 ≤ m ∧ m ≤ 1000000000 ∧ (∀ l g, 0 ≤ l → l < y → 0 ≤ g → g < 8 → m ≤ σ 22 (l * 648 + (8 * p + g))) ∧ (m = 1000000000 ∨ ∃ l g, (0 ≤ l ∧ l < ly) ∧ (0 ≤ g ∧ g < 8) ∧ m = σ 22 (l * 648 + (8 * p + g))), fun _ y _ => (4 - y).toNat, ⟨rfl, by decide, by omega, by decide, by decide, fun l g a b => by omega, Or.inl rfl⟩, ?_⟩
  rintro m y s ⟨rfl, y0, y1, m0, m1, hI1, hI2⟩ - -
  rw [h15]
  refine ⟨fun c => h m ⟨m0, m1, fun l g a b => hI1 l g a (by omega), hI2⟩, fun c x6 e6 => ?_⟩
  refine ⟨fun m' z s' => s' = s ∧ 0 ≤ z ∧ z ≤ 8 ∧ 0 ≤ m' ∧ m' ≤ 1000000000 ∧ (∀ l g, 0 ≤ l → (l < y ∨ (l = y ∧ g < z)) → 0 ≤ g → g < 8 → m' ≤ s 22 (l * 648 + (8 * p + g))) ∧ (m' = 1000000000 ∨ ∃ l g, (0 ≤ l ∧ l < ly) ∧ (0 ≤ g ∧ g < 8) ∧ m' = s 22 (l * 648 + (8 * p + g))), fun _ z _ => (8 - z).toNat, ⟨rfl, by decide, by decide, m0, m1, fun l g a b c0 c1 => hI1 l g a (by omega) c0 c1, hI2⟩, ?_⟩
  rintro m' z s' ⟨rfl, z0, z1, m0', m1', hJ1, hJ2⟩ - -
  refine ⟨fun d => ⟨⟨rfl, by omega, by omega, m0', m1', fun l g a b c0 c1 => hJ1 l g a (by omega) c0 c1, hJ2⟩, zRi (by omega) (by omega), by dsimp only; omega⟩, fun d => ?_⟩
  have ex : x6 + z = y * 648 + (8 * p + z) := by omega
  unfold q_H_key
  rw [ex]
  have hv := hb (y * 648 + (8 * p + z)) (by omega) (by omega)
  refine ⟨zRi (by omega) (by omega), by omega, fun x17 e17 => ⟨⟨rfl, by omega, by omega, by omega, by omega, fun l g a b c0 c1 => ?_, ?_⟩, zRi (by omega) (by omega), by dsimp only; omega⟩⟩
  · by_cases q : l = y ∧ g = z
    · rw [q.1, q.2]; omega
    · have := hJ1 l g a (by omega) c0 c1
      omega
  · by_cases q : m' ≤ s' 22 (y * 648 + (8 * p + z))
    · rw [show x17 = m' by omega]
      exact hJ2
    · exact Or.inr ⟨y, z, ⟨y0, c⟩, ⟨z0, d⟩, by omega⟩
theorem t_W_left {K : Int → zS → Prop} {σ : zS} {ly p : Int} (h15 : σ 15 12 = ly) (hly : 1 ≤ ly ∧ ly ≤ 4) (hp : 0 ≤ p ∧ p < 81) (hb : ∀ v : Int, 0 ≤ v → v < ly * 648 → 0 ≤ σ 22 v ∧ σ 22 v ≤ 1000000000) (h : ∀ m, LkP (σ 22) ly p m → K (if m = 1000000000 then -1 else m / 1024) σ) : q_W_left p K σ := by
  unfold q_W_left
  refine t_W_leastKey h15 hly hp hb (fun m hm => ?_)
  have := h m hm
  refine ⟨fun c => ?_, fun c => ?_⟩
  · rw [if_neg c] at this
    rw [zShr_10 (zRi (by have := hm.1; omega) (by have := hm.2.1; omega))]
    exact this
  · rw [if_pos c] at this
    exact this
def FhS (L bw wt d : Int → Int) (p h key g : Int) : Prop := wt (8 * p + g) ≠ -1 ∧ (h ≠ -1 → Bnd L p h g) ∧ d (8 * p + g) + (if h = -1 then 0 else bw (eig h g)) = key
theorem t_W_firstHeading {K : Int → zS → Prop} {σ : zS} {L bw wt lf : Int → Int} {ly p hd key : Int} (hG : GS L bw wt lf ly σ) (hB : WB L bw wt lf ly) (hL : GW L) (hp : inP L p) (hh : hd = -1 ∨ (0 ≤ hd ∧ hd < 8)) (hb : ∀ v : Int, 0 ≤ v → v < 648 → 0 ≤ σ 22 v ∧ σ 22 v ≤ 1000000000) (h : ∀ b, ((b = -1 ∧ ∀ g, 0 ≤ g → g < 8 → ¬ FhS L bw wt (σ 22) p hd key g) ∨ ((0 ≤ b ∧ b < 8) ∧ FhS L bw wt (σ 22) p hd key b ∧ ∀ g, 0 ≤ g → g < 8 → FhS L bw wt (σ 22) p hd key g → bs L p b ≤ bs L p g)) → K b σ) : q_W_firstHeading p hd key K σ := by
  have hp2 := hp.b hL
  obtain ⟨hc, g11, g12, g19, g18, g16, g17⟩ := id hG
  unfold q_W_firstHeading
  refine ⟨fun b f y s => s = σ ∧ 0 ≤ y ∧ y ≤ 8 ∧ ((b = -1 ∧ f = 81 ∧ ∀ g, 0 ≤ g → g < y → ¬ FhS L bw wt (σ 22) p hd key g) ∨ ((0 ≤ b ∧ b < y) ∧ f = bs L p b ∧ FhS L bw wt (σ 22) p hd key b ∧ ∀ g, 0 ≤ g → g < y → FhS L bw wt (σ 22) p hd key g → bs L p b ≤ bs L p g)), fun _ _ y _ => (8 - y).toNat, ⟨rfl, by decide, by decide, Or.inl ⟨rfl, rfl, fun g a b => by omega⟩⟩, ?_⟩
  rintro b f y s ⟨rfl, y0, y8, hI⟩ - - -
  have cont : y < 8 → (FhS L bw wt (s 22) p hd key y → ((0 ≤ b ∧ b < y) ∧ f ≤ bs L p y)) → (s = s ∧ 0 ≤ y + 1 ∧ y + 1 ≤ 8 ∧ ((b = -1 ∧ f = 81 ∧ ∀ g, 0 ≤ g → g < y + 1 → ¬ FhS L bw wt (s 22) p hd key g) ∨ ((0 ≤ b ∧ b < y + 1) ∧ f = bs L p b ∧ FhS L bw wt (s 22) p hd key b ∧ ∀ g, 0 ≤ g → g < y + 1 → FhS L bw wt (s 22) p hd key g → bs L p b ≤ bs L p g))) ∧ zR (y + 1) ∧ (8 - (y + 1)).toNat < (8 - y).toNat := fun c8 hn => by
    refine ⟨⟨rfl, by omega, by omega, ?_⟩, zRi (by omega) (by omega), by omega⟩
    rcases hI with ⟨a1, a2, a3⟩ | ⟨a1, a2, a3, a4⟩
    · refine Or.inl ⟨a1, a2, fun g g0 g1 q => ?_⟩
      by_cases e : g = y
      · rw [e] at q
        have := (hn q).1
        omega
      · exact a3 g g0 (by omega) q
    · refine Or.inr ⟨⟨a1.1, by omega⟩, a2, a3, fun g g0 g1 q => ?_⟩
      by_cases e : g = y
      · rw [e] at q ⊢
        have := (hn q).2
        omega
      · exact a4 g g0 (by omega) q
  refine ⟨fun c => h b ?_, fun c x6 e6 => ?_⟩
  · rcases hI with ⟨a1, a2, a3⟩ | ⟨a1, a2, a3, a4⟩
    · exact Or.inl ⟨a1, fun g g0 g1 => a3 g g0 (by omega)⟩
    · exact Or.inr ⟨⟨a1.1, by omega⟩, a3, fun g g0 g1 => a4 g g0 (by omega)⟩
  · rw [Int.mul_comm] at e6
    subst e6
    rw [g16]
    refine ⟨by omega, fun d => cont c (fun q => absurd d q.1), fun d => ?_⟩
    have hw := (hB.2.2 p y hp y0 c).resolve_left d
    have iq := bs_in hw.1
    have iq2 := iq.b hL
    refine ⟨fun t => t = s ∧ (hd ≠ -1 → Bnd L p hd y), fun t ht => ?_, fun e => ⟨rfl, fun q => absurd e q⟩, fun e => t_W_canBend hG hL hp (hh.resolve_left e) ⟨y0, c⟩ (fun bd => n1b ⟨rfl, fun _ => bd⟩) (fun bd => n0b (cont c (fun q => absurd (q.2.1 e) bd)))⟩
    obtain ⟨rfl, hbd⟩ := ht
    refine ⟨fun w t' => t' = t ∧ w = (if hd = -1 then 0 else bw (eig hd y)), fun w t' hw' _ => ?_, fun e => t_R_eighths (hh.resolve_left e) ⟨y0, c⟩ ?_, fun e => ⟨rfl, by rw [if_pos e]⟩⟩
    · obtain ⟨rfl, ew⟩ := hw'
      have hwb : 0 ≤ w ∧ w ≤ 101376 := by
        rw [ew]
        split
        · omega
        · have ee := eig_b (hh.resolve_left (by assumption)).1 (hh.resolve_left (by assumption)).2 y0 c
          exact hB.2.1 _ ee.1 ee.2
      have hv := hb (8 * p + y) (by omega) (by omega)
      refine t_L_besideOf hc hL hp ⟨y0, c⟩ ⟨zRi (by omega) (by omega), ?_⟩
      unfold q_H_key
      refine ⟨by omega, zRi (by omega) (by omega), fun ne => cont c (fun q => ?_), fun eq => ⟨fun ge => cont c (fun q => ?_), fun lt => ?_⟩⟩
      · exfalso
        have := q.2.2
        rw [← ew] at this
        exact ne this
      · rcases hI with ⟨a1, a2, a3⟩ | ⟨a1, a2, a3, a4⟩
        · omega
        · exact ⟨a1, ge⟩
      · refine ⟨⟨rfl, by omega, by omega, Or.inr ⟨⟨y0, by omega⟩, rfl, ⟨d, hbd, by rw [← ew]; exact eq⟩, fun g g0 g1 q => ?_⟩⟩, zRi (by omega) (by omega), by dsimp only; omega⟩
        by_cases e : g = y
        · rw [e]; exact Int.le_refl _
        · rcases hI with ⟨a1, a2, a3⟩ | ⟨a1, a2, a3, a4⟩
          · exact absurd q (a3 g g0 (by omega))
          · have := a4 g g0 (by omega) q
            omega
    · have ee := eig_b (hh.resolve_left e).1 (hh.resolve_left e).2 y0 c
      exact ⟨by omega, rfl, by rw [if_neg e]; exact g19 _ ee.1 ee.2⟩
/-- the lowest bits of a label count its steps -/
theorem lab_low {B : Int → Int → Prop} {E : Int → Int → Int → Prop} {D : Int → Int} (hE : ∀ v u w, E v u w → 1 ≤ w ∧ w % 1024 = 1) (hB : ∀ v b, B v b → b % 1024 = 1) (hD : Lab 1000000000 (fun v : Int => 0 ≤ v ∧ v < 648) B E D) : ∀ v : Int, 0 ≤ v → v < 648 → D v < 1000000000 → 1 ≤ D v % 1024 ∧ D v % 1024 ≤ 648 := by
  have key : ∀ n : Nat, ∀ v : Int, 0 ≤ v → v < 648 → D v < 1000000000 → (D v).toNat < n → 1 ≤ D v % 1024 ∧ D v % 1024 ≤ (cnt (fun i => decide (D (i : Nat) < D v)) 648 : Nat) + 1 := by
    intro n
    induction n with
    | zero => intro v _ _ _ h; exact absurd h (Nat.not_lt_zero _)
    | succ n ih =>
      intro v v0 v1 hf hn
      rcases hD.2.1 v ⟨v0, v1⟩ hf with q | ⟨u, w, q1, q2, q3, q4⟩
      · have := hB v _ q
        omega
      · have a := hE v u w q2
        have b := (hD.2.2 u q1).1
        have c := hD.1.2 v u w q2 q3
        have d := ih u q1.1 q1.2 q3 (by omega)
        have e : ((u.toNat : Nat) : Int) = u := Int.toNat_of_nonneg q1.1
        have f := cnt_full (P := fun i => decide (D (i : Nat) < D u)) (j := u.toNat) (n := 648) (by have := q1.1; have := q1.2; omega) (by simp only [e]; exact decide_eq_false (by omega))
        have g := cnt_lt (P := fun i => decide (D (i : Nat) < D u)) (Q := fun i => decide (D (i : Nat) < D v)) (j := u.toNat) 648 (by have := q1.1; have := q1.2; omega) (fun i _ hi => by
          simp only [decide_eq_true_eq] at hi ⊢
          omega) (by simp only [e]; exact decide_eq_false (by omega)) (by simp only [e]; exact decide_eq_true (by omega))
        omega
  intro v v0 v1 hf
  have a := key _ v v0 v1 hf (Nat.lt_succ_self _)
  have e : ((v.toNat : Nat) : Int) = v := Int.toNat_of_nonneg v0
  have f := cnt_full (P := fun i => decide (D (i : Nat) < D v)) (j := v.toNat) (n := 648) (by omega) (by simp only [e]; exact decide_eq_false (by omega))
  omega
