/-! ===== what can be reached ===== -/
def NRn (L wt : Int → Int) (fr : Int) : Nat → Int → Int → Prop
  | 0, p, g => p = fr ∧ wt (8 * p + g) ≠ -1
  | n + 1, p, g => NRn L wt fr n p g ∨ ∃ p0 g0, inP L p0 ∧ (0 ≤ g0 ∧ g0 < 8) ∧ NRn L wt fr n p0 g0 ∧ p = bs L p0 g0 ∧ wt (8 * p + g) ≠ -1 ∧ Bnd L p g0 g
def NR (L wt : Int → Int) (fr p g : Int) : Prop := ∃ n, NRn L wt fr n p g
/-- the nodes that stand in line -/
def SQ (s : zS) (n : Int) : Prop := n = (cnt (fun i => decide (s 26 (i : Nat) ≠ 0)) 648 : Nat) ∧ (∀ i, 0 ≤ i → i < n → 0 ≤ s 27 i ∧ s 27 i < 648 ∧ s 26 (s 27 i) = 1) ∧ (∀ x, 0 ≤ x → x < 648 → s 26 x = 0 ∨ s 26 x = 1) ∧ (∀ x, 0 ≤ x → x < 648 → s 26 x = 1 → ∃ i, 0 ≤ i ∧ i < n ∧ s 27 i = x)
theorem SQ_n {s : zS} {n : Int} (h : SQ s n) : 0 ≤ n ∧ n ≤ 648 := by
  have := cnt_le (fun i => decide (s 26 (i : Nat) ≠ 0)) 648
  have := h.1
  omega
theorem SQ_add {s t : zS} {n x : Int} (h : SQ s n) (x0 : 0 ≤ x) (x1 : x < 648) (hx : s 26 x = 0) (e26 : t 26 = up (s 26) x 1) (e27 : t 27 = up (s 27) n x) : n < 648 ∧ SQ t (n + 1) := by
  obtain ⟨h1, h2, h3, h4⟩ := h
  have ex : ((x.toNat : Nat) : Int) = x := Int.toNat_of_nonneg x0
  have c1 := cnt_full (P := fun i => decide (s 26 (i : Nat) ≠ 0)) (j := x.toNat) (n := 648) (by omega) (by simp only [ex]; exact decide_eq_false (by omega))
  have c2 := cnt_lt (P := fun i => decide (s 26 (i : Nat) ≠ 0)) (Q := fun i => decide (t 26 (i : Nat) ≠ 0)) (j := x.toNat) 648 (by omega) (fun i _ hi => by
    simp only [decide_eq_true_eq] at hi ⊢
    rw [e26]
    by_cases e : (i : Int) = x
    · rw [e, up_s]; decide
    · rw [up_o e]; exact hi) (by simp only [ex]; exact decide_eq_false (by omega)) (by simp only [ex]; rw [e26, up_s]; decide)
  have c3 := cnt_one (P := fun i => decide (s 26 (i : Nat) ≠ 0)) (Q := fun i => decide (t 26 (i : Nat) ≠ 0)) x.toNat 648 (fun i _ hne => by
    have : (i : Int) ≠ x := fun q => hne (by omega)
    simp only [e26]
    rw [up_o this])
  refine ⟨by omega, by omega, fun i i0 i1 => ?_, fun y y0 y1 => ?_, fun y y0 y1 hy => ?_⟩
  · rw [e27, e26]
    by_cases e : i = n
    · rw [e, up_s, up_s]
      exact ⟨x0, x1, rfl⟩
    · rw [up_o e]
      have a := h2 i i0 (by omega)
      refine ⟨a.1, a.2.1, ?_⟩
      rw [up_o (fun q => by rw [q] at a; omega)]
      exact a.2.2
  · rw [e26]
    by_cases e : y = x
    · rw [e, up_s]; exact Or.inr rfl
    · rw [up_o e]; exact h3 y y0 y1
  · rw [e26] at hy
    rw [e27]
    by_cases e : y = x
    · exact ⟨n, by omega, by omega, by rw [up_s, e]⟩
    · rw [up_o e] at hy
      obtain ⟨i, i0, i1, ei⟩ := h4 y y0 y1 hy
      exact ⟨i, i0, by omega, by rw [up_o (by omega)]; exact ei⟩
theorem t_W_line {K : Int → zS → Prop} {σ : zS} {L bw wt lf : Int → Int} {ly p hd n : Int} (hG : GS L bw wt lf ly σ) (hL : GW L) (hp : inP L p) (hh : hd = -1 ∨ (0 ≤ hd ∧ hd < 8)) (hS : SQ σ n) (h : ∀ n' τ, zQ [26, 27] σ τ → SQ τ n' → n ≤ n' → (∀ i, 0 ≤ i → i < n → τ 27 i = σ 27 i) → (∀ x, σ 26 x = 1 → τ 26 x = 1) → (∀ g, 0 ≤ g → g < 8 → wt (8 * p + g) ≠ -1 → (hd ≠ -1 → Bnd L p hd g) → τ 26 (8 * p + g) = 1) → (∀ i, n ≤ i → i < n' → ∃ g, (0 ≤ g ∧ g < 8) ∧ τ 27 i = 8 * p + g ∧ wt (8 * p + g) ≠ -1 ∧ (hd ≠ -1 → Bnd L p hd g)) → K n' τ) : q_W_line p hd n K σ := by
  have hp2 := hp.b hL
  have hn := SQ_n hS
  unfold q_W_line
  refine ⟨fun m y s => zQ [26, 27] σ s ∧ 0 ≤ y ∧ y ≤ 8 ∧ SQ s m ∧ n ≤ m ∧ (∀ i, 0 ≤ i → i < n → s 27 i = σ 27 i) ∧ (∀ x, σ 26 x = 1 → s 26 x = 1) ∧ (∀ g, 0 ≤ g → g < y → wt (8 * p + g) ≠ -1 → (hd ≠ -1 → Bnd L p hd g) → s 26 (8 * p + g) = 1) ∧ (∀ i, n ≤ i → i < m → ∃ g, (0 ≤ g ∧ g < 8) ∧ s 27 i = 8 * p + g ∧ wt (8 * p + g) ≠ -1 ∧ (hd ≠ -1 → Bnd L p hd g)), fun _ y _ => (8 - y).toNat, ⟨zQ_r _ _, by decide, by decide, hS, Int.le_refl _, fun i _ _ => rfl, fun x e => e, fun g a b => by omega, fun i a b => by omega⟩, ?_⟩
  rintro m y s ⟨hq, y0, y8, hSs, hnm, h1, h2, h3, h4⟩ - -
  have hGs := GS_Q hG hq (by decide)
  have s16 : s 16 = wt := hGs.2.2.2.2.2.1
  have hm := SQ_n hSs
  have cont : y < 8 → (wt (8 * p + y) ≠ -1 → (hd ≠ -1 → Bnd L p hd y) → s 26 (8 * p + y) = 1) → (zQ [26, 27] σ s ∧ 0 ≤ y + 1 ∧ y + 1 ≤ 8 ∧ SQ s m ∧ n ≤ m ∧ (∀ i, 0 ≤ i → i < n → s 27 i = σ 27 i) ∧ (∀ x, σ 26 x = 1 → s 26 x = 1) ∧ (∀ g, 0 ≤ g → g < y + 1 → wt (8 * p + g) ≠ -1 → (hd ≠ -1 → Bnd L p hd g) → s 26 (8 * p + g) = 1) ∧ (∀ i, n ≤ i → i < m → ∃ g, (0 ≤ g ∧ g < 8) ∧ s 27 i = 8 * p + g ∧ wt (8 * p + g) ≠ -1 ∧ (hd ≠ -1 → Bnd L p hd g))) ∧ zR (y + 1) ∧ (8 - (y + 1)).toNat < (8 - y).toNat := fun c hc => by
    refine ⟨⟨hq, by omega, by omega, hSs, hnm, h1, h2, fun g g0 g1 => ?_, h4⟩, zRi (by omega) (by omega), by omega⟩
    by_cases e : g = y
    · rw [e]; exact hc
    · exact h3 g g0 (by omega)
  refine ⟨fun c => h m s hq hSs hnm h1 h2 (fun g g0 g1 => h3 g g0 (by omega)) h4, fun c x5 e5 => ?_⟩
  rw [Int.mul_comm] at e5
  subst e5
  rw [s16]
  have s26 := hSs.2.2.1 (8 * p + y) (by omega) (by omega)
  refine ⟨by omega, fun d => cont c (fun q => absurd d q), fun d => ⟨fun e => ⟨fun t => t = s ∧ (hd ≠ -1 → Bnd L p hd y), fun t ht s14 e14 => ?_, fun q => ⟨rfl, fun z => absurd q z⟩, fun q => t_W_canBend hGs hL hp (hh.resolve_left q) ⟨y0, c⟩ (fun bd => n1a ⟨rfl, fun _ => bd⟩) (fun bd => n0a (cont c (fun _ z => absurd (z q) bd)))⟩, fun e => cont c (fun _ _ => by omega)⟩⟩
  obtain ⟨rfl, hbd⟩ := ht
  have fulln := SQ_add (t := zU (zU t 26 (8 * p + y) 1) 27 m (8 * p + y)) hSs (by omega) (by omega) e (by rw [zU_row (by decide), zU_up]) (by rw [zU_up, zU_row (by decide)])
  refine ⟨by omega, zRi (by omega) (by omega), fun s17 e17 => ?_⟩
  rw [e14] at e17
  have k26 : s17 26 = up (t 26) (8 * p + y) 1 := by rw [e17, zU_row (by decide), zU_up]
  have k27 : s17 27 = up (t 27) m (8 * p + y) := by rw [e17, zU_up, zU_row (by decide)]
  refine ⟨⟨?_, by omega, by omega, ?_, by omega, fun i i0 i1 => ?_, fun x hx => ?_, fun g g0 g1 w b => ?_, fun i i0 i1 => ?_⟩, zRi (by omega) (by omega), zRi (by omega) (by omega), by dsimp only; omega⟩
  · rw [e17]; exact zQ_t hq (zQ_t (zQ_U (by decide)) (zQ_U (by decide)))
  · rw [e17]; exact fulln.2
  · rw [k27, up_o (by omega)]; exact h1 i i0 i1
  · rw [k26]
    by_cases z : x = 8 * p + y
    · rw [z, up_s]
    · rw [up_o z]; exact h2 x hx
  · rw [k26]
    by_cases z : g = y
    · rw [z, up_s]
    · rw [up_o (by omega)]; exact h3 g g0 (by omega) w b
  · rw [k27]
    by_cases z : i = m
    · rw [z, up_s]
      exact ⟨y, ⟨y0, c⟩, rfl, d, hbd⟩
    · rw [up_o z]
      exact h4 i i0 (by omega)
/-- what spread leaves -/
def SpP (L wt : Int → Int) (fr to_ r : Int) (τ : zS) : Prop := (r = 0 ∨ r = 1) ∧ (r = 1 → to_ ≠ -1 ∧ ∃ p g, inP L p ∧ (0 ≤ g ∧ g < 8) ∧ NR L wt fr p g ∧ bs L p g = to_) ∧ (r = 0 → ∀ q, inP L q → (τ 29 q = 0 ∨ τ 29 q = 1) ∧ (τ 29 q = 1 ↔ ∃ p g, inP L p ∧ (0 ≤ g ∧ g < 8) ∧ NR L wt fr p g ∧ bs L p g = q) ∧ (q = to_ → τ 29 q = 0))
theorem t_W_spread {K : Int → zS → Prop} {σ : zS} {L bw wt lf : Int → Int} {ly fr to_ : Int} (hG : GS L bw wt lf ly σ) (hL : GW L) (hwb : ∀ p g, inP L p → 0 ≤ g → g < 8 → wt (8 * p + g) ≠ -1 → bs L p g ≠ -1) (hfr : inP L fr) (h : ∀ r τ, zQ [26, 27, 29] σ τ → SpP L wt fr to_ r τ → K r τ) : q_W_spread fr to_ K σ := by
  have hfb := hfr.b hL
  unfold q_W_spread
  refine t_J_fill2 (M := 648) rfl (t_J_fill2 (M := 81) rfl ?_)
  generalize hs2 : zFill (zFill σ 26 0 648 0) 29 0 81 0 = s2
  have q2 : zQ [26, 27, 29] σ s2 := by rw [← hs2]; exact zQ_t (zQ_F (by decide)) (zQ_F (by decide))
  have z26 : ∀ x, 0 ≤ x → x < 648 → s2 26 x = 0 := fun x x0 x1 => by rw [← hs2, zFill_o (by decide), zFill_at x0 x1]
  have z29 : ∀ x, 0 ≤ x → x < 81 → s2 29 x = 0 := fun x x0 x1 => by rw [← hs2, zFill_at x0 x1]
  have hG2 := GS_Q hG q2 (by decide)
  have hS0 : SQ s2 0 := by
    have c0 : cnt (fun i => decide (s2 26 (i : Nat) ≠ 0)) 648 = cnt (fun _ => false) 648 := cnt_congr _ (fun i hi => decide_eq_false (by rw [z26 i (by omega) (by omega)]; simp))
    have z : ∀ n, cnt (fun _ => false) n = 0 := fun n => by
      induction n with
      | zero => rfl
      | succ n ih => show cnt (fun _ => false) n + _ = 0; rw [ih]; rfl
    refine ⟨by rw [c0, z]; rfl, fun i a b => by omega, fun x x0 x1 => Or.inl (z26 x x0 x1), fun x x0 x1 hx => by rw [z26 x x0 x1] at hx; omega⟩
  refine t_W_line hG2 hL hfr (Or.inl rfl) hS0 (fun n3 s3 q3 hS3 hn3 l1 l2 l3 l4 => ?_)
  refine ⟨fun n k s => zQ [26, 27, 29] σ s ∧ SQ s n ∧ 0 ≤ k ∧ k ≤ n ∧ (∀ i, 0 ≤ i → i < n → ∃ p g, inP L p ∧ (0 ≤ g ∧ g < 8) ∧ s 27 i = 8 * p + g ∧ NR L wt fr p g) ∧ (∀ g, 0 ≤ g → g < 8 → wt (8 * fr + g) ≠ -1 → s 26 (8 * fr + g) = 1) ∧ (∀ i p g g', 0 ≤ i → i < k → inP L p → (0 ≤ g ∧ g < 8) → s 27 i = 8 * p + g → (0 ≤ g' ∧ g' < 8) → wt (8 * bs L p g + g') ≠ -1 → Bnd L (bs L p g) g g' → s 26 (8 * bs L p g + g') = 1) ∧ (∀ q, inP L q → (s 29 q = 0 ∨ s 29 q = 1) ∧ (s 29 q = 1 ↔ ∃ i p g, (0 ≤ i ∧ i < k) ∧ inP L p ∧ (0 ≤ g ∧ g < 8) ∧ s 27 i = 8 * p + g ∧ bs L p g = q) ∧ (q = to_ → s 29 q = 0)), fun n k _ => (648 - k).toNat, ⟨zQ_t q2 (zQ_m q3 (by decide)), hS3, by decide, by omega, fun i i0 i1 => ?_, fun g g0 g1 hw => l3 g g0 g1 hw (fun z => absurd rfl z), fun i p g g' i0 i1 => by omega, fun q iq => ?_⟩, ?_⟩
  · obtain ⟨g, hg, e1, e2, -⟩ := l4 i (by omega) i1
    exact ⟨fr, g, hfr, hg, e1, 0, rfl, e2⟩
  · have e29 : s3 29 q = 0 := by rw [q3 29 (by decide)]; exact z29 q iq.1 (iq.b hL).2
    refine ⟨Or.inl e29, ⟨fun z => by omega, ?_⟩, fun _ => e29⟩
    rintro ⟨i, p, g, hi, -⟩
    omega
  rintro n k s ⟨hq, hS, k0, k1, i1, i2, i3, i4⟩ - -
  have hn := SQ_n hS
  have hGs := GS_Q hG hq (by decide)
  -- at the end all is seen
  have fin : k = n → K 0 s := fun ek => by
    have closed : ∀ m p g, inP L p → (0 ≤ g ∧ g < 8) → NRn L wt fr m p g → s 26 (8 * p + g) = 1 := by
      intro m
      induction m with
      | zero =>
        rintro p g ip hg ⟨rfl, hw⟩
        exact i2 g hg.1 hg.2 hw
      | succ m ih =>
        intro p g ip hg hr
        rcases hr with hr | ⟨p0, g0, ip0, hg0, hr, ep, hw, bd⟩
        · exact ih p g ip hg hr
        · have ipb := ip0.b hL
          have s1 := ih p0 g0 ip0 hg0 hr
          obtain ⟨i, i0, i1', ei⟩ := hS.2.2.2 (8 * p0 + g0) (by omega) (by omega) s1
          rw [ep] at hw bd ⊢
          exact i3 i p0 g0 g i0 (by omega) ip0 hg0 ei hg hw bd
    refine h 0 s hq ⟨Or.inl rfl, fun z => absurd z (by decide), fun _ q iq => ?_⟩
    obtain ⟨a1, a2, a3⟩ := i4 q iq
    refine ⟨a1, a2.trans ⟨?_, ?_⟩, a3⟩
    · rintro ⟨i, p, g, hi, ip, hg, ei, eb⟩
      obtain ⟨p', g', ip', hg', ei', hr⟩ := i1 i hi.1 (by omega)
      have : p' = p ∧ g' = g := by omega
      rw [this.1, this.2] at hr
      exact ⟨p, g, ip, hg, hr, eb⟩
    · rintro ⟨p, g, ip, hg, ⟨m, hr⟩, eb⟩
      have ipb := ip.b hL
      obtain ⟨i, i0, i1', ei⟩ := hS.2.2.2 (8 * p + g) (by omega) (by omega) (closed m p g ip hg hr)
      exact ⟨i, p, g, ⟨i0, by omega⟩, ip, hg, ei, eb⟩
  refine ⟨fun c => fin (by omega), fun c => ⟨fun d => by omega, fun d => ⟨by omega, fun x12 e12 => ?_⟩⟩⟩
  obtain ⟨p, g, ip, hg, ek, hr⟩ := i1 k k0 c
  have ipb := ip.b hL
  rw [ek, zAnd_7, show (8 * p + g) % 8 = g by omega] at e12
  rw [ek, Int.tdiv_eq_ediv_of_nonneg (by omega), show (8 * p + g) / 8 = p by omega]
  subst e12
  have hwk : wt (8 * p + x12) ≠ -1 := by
    obtain ⟨m, hr⟩ := hr
    cases m with
    | zero => exact hr.2
    | succ m =>
      have : ∀ m, NRn L wt fr m p x12 → wt (8 * p + x12) ≠ -1 := by
        intro m
        induction m with
        | zero => exact fun z => z.2
        | succ m ih => exact fun z => z.elim ih (fun ⟨_, _, _, _, _, _, w, _⟩ => w)
      exact this _ hr
  have hb := hwb p x12 ip hg.1 hg.2 hwk
  have iq := bs_in hb
  have iqb := iq.b hL
  refine ⟨zRi (by omega) (by omega), t_L_besideOf hGs.1 hL ip hg ⟨iqb, fun s18 e18 => ?_⟩⟩
  have q18 : zQ [26, 27, 29] σ s18 := by rw [e18]; exact zQ_t hq (zQ_U (by decide))
  have e26 : s18 26 = s 26 := by rw [e18, zU_row (by decide)]
  have e27 : s18 27 = s 27 := by rw [e18, zU_row (by decide)]
  refine ⟨fun ne => ?_, fun e => h 1 s18 q18 ⟨Or.inr rfl, fun _ => ⟨by rw [← e]; exact hb, p, x12, ip, hg, hr, e⟩, fun z => absurd z (by decide)⟩⟩
  have hS18 : SQ s18 n := by unfold SQ; rw [e26, e27]; exact hS
  refine t_W_line (GS_Q hG q18 (by decide)) hL iq (Or.inr hg) hS18 (fun n' s' q' hS' hn' l1 l2 l3 l4 => ?_)
  rw [e27] at l1
  rw [e26] at l2
  refine ⟨⟨zQ_t q18 (zQ_m q' (by decide)), hS', by omega, by omega, fun i i0 i1' => ?_, fun g g0 g1 hw => l2 _ (i2 g g0 g1 hw), fun i p1 g1 g' i0 i1' ip1 hg1 ei hg' hw bd => ?_, fun q iq' => ?_⟩, zRi (by omega) (by omega), by dsimp only; omega⟩
  · by_cases z : i < n
    · rw [l1 i i0 z]
      exact i1 i i0 z
    · obtain ⟨g', hg', e1, e2, e3⟩ := l4 i (by omega) i1'
      obtain ⟨m, hm⟩ := hr
      exact ⟨bs L p x12, g', iq, hg', e1, m + 1, Or.inr ⟨p, x12, ip, hg, hm, rfl, e2, e3 (by omega)⟩⟩
  · by_cases z : i = k
    · rw [z, l1 k k0 c, ek] at ei
      have : p1 = p ∧ g1 = x12 := by omega
      rw [this.1, this.2] at hw bd ⊢
      exact l3 g' hg'.1 hg'.2 hw (fun _ => bd)
    · rw [l1 i i0 (by omega)] at ei
      exact l2 _ (i3 i p1 g1 g' i0 (by omega) ip1 hg1 ei hg' hw bd)
  · have old := i4 q iq'
    have e29 : s' 29 q = if q = bs L p x12 then 1 else s 29 q := by rw [q' 29 (by decide), e18, zU_if]
    rw [e29]
    by_cases z : q = bs L p x12
    · rw [if_pos z]
      exact ⟨Or.inr rfl, ⟨fun _ => ⟨k, p, x12, ⟨k0, by omega⟩, ip, hg, by rw [l1 k k0 c]; exact ek, z.symm⟩, fun _ => rfl⟩, fun w => absurd (z.symm.trans w) ne⟩
    · rw [if_neg z]
      refine ⟨old.1, old.2.1.trans ⟨?_, ?_⟩, old.2.2⟩
      · rintro ⟨i, p1, g1, hi, ip1, hg1, ei, eb⟩
        exact ⟨i, p1, g1, ⟨hi.1, by omega⟩, ip1, hg1, by rw [l1 i hi.1 (by omega)]; exact ei, eb⟩
      · rintro ⟨i, p1, g1, hi, ip1, hg1, ei, eb⟩
        rw [l1 i hi.1 (by omega)] at ei
        by_cases w : i = k
        · rw [w, ek] at ei
          have : p1 = p ∧ g1 = x12 := by omega
          rw [this.1, this.2] at eb
          exact absurd eb.symm z
        · exact ⟨i, p1, g1, ⟨hi.1, by omega⟩, ip1, hg1, ei, eb⟩
