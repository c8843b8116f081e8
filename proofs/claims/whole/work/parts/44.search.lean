/-! ===== the search itself ===== -/
def cBs (L wt lf : Int → Int) (ly goal v b : Int) : Prop := ∃ p g, inP L p ∧ 0 ≤ g ∧ g < 8 ∧ bs L p g = goal ∧ wt (8 * p + g) ≠ -1 ∧ lf (8 * p + g) < ly ∧ v = lf (8 * p + g) * 648 + (8 * p + g) ∧ b = wt (8 * p + g)
def cEd (L bw wt lf : Int → Int) (ly v u w : Int) : Prop := ∃ p g g' l, inP L p ∧ (0 ≤ g ∧ g < 8) ∧ (0 ≤ g' ∧ g' < 8) ∧ 0 ≤ l ∧ bs L p g ≠ -1 ∧ wt (8 * p + g) ≠ -1 ∧ l + lf (8 * p + g) < ly ∧ Bnd L (bs L p g) g g' ∧ v = (l + lf (8 * p + g)) * 648 + (8 * p + g) ∧ u = l * 648 + (8 * bs L p g + g') ∧ w = wt (8 * p + g) + bw (eig g g')
theorem cEd_b {L bw wt lf : Int → Int} {ly v u w : Int} (hL : GW L) (hB : WB L bw wt lf ly) (h : cEd L bw wt lf ly v u w) : (0 ≤ v ∧ v < ly * 648) ∧ (0 ≤ u ∧ u < ly * 648) ∧ 1 ≤ w ∧ w ≤ 319000 + (v / 648 - u / 648) * 1200000 ∧ u / 648 ≤ v / 648 := by
  obtain ⟨p, g, g', l, ip, hg, hg', l0, hb, hw, hl, -, e1, e2, e3⟩ := h
  have h1 := (hB.2.2 p g ip hg.1 hg.2).resolve_left hw
  have h2 := eig_b hg.1 hg.2 hg'.1 hg'.2
  have h3 := hB.2.1 _ h2.1 h2.2
  have h4 := ip.b hL
  have h5 := (bs_in hb).b hL
  omega
theorem cBs_b {L bw wt lf : Int → Int} {ly goal v b : Int} (hL : GW L) (hB : WB L bw wt lf ly) (h : cBs L wt lf ly goal v b) : (0 ≤ v ∧ v < ly * 648) ∧ 1 ≤ b ∧ b ≤ 319000 + (v / 648) * 1200000 := by
  obtain ⟨p, g, ip, g0, g1, hb, hw, hl, e1, e2⟩ := h
  have h1 := (hB.2.2 p g ip g0 g1).resolve_left hw
  have h4 := ip.b hL
  omega
def DI (B Bd : Int → Int → Prop) (E : Int → Int → Int → Prop) (N : Nat) (κ : Int) (Cl : Int → Prop) (σ : zS) : Prop :=
  HP σ ∧
  (∀ v : Int, 0 ≤ v → v < N → 0 ≤ σ 22 v ∧ σ 22 v ≤ 1000000000 ∧ (σ 22 v < 1000000000 → σ 22 v ≤ 319000 * (cnt (fun i => decide (σ 22 (i : Nat) < 1000000000)) N : Nat) + (v / 648) * 1200000)) ∧
  (∀ v : Int, HIn σ v → 0 ≤ v ∧ v < N ∧ σ 22 v < 1000000000 ∧ κ ≤ σ 22 v) ∧
  (∀ v : Int, Cl v → 0 ≤ v ∧ v < N ∧ σ 22 v < 1000000000 ∧ ¬ HIn σ v) ∧
  (∀ v b, Bd v b → σ 22 v ≤ b) ∧
  (∀ v u w, E v u w → Cl u → σ 22 v ≤ σ 22 u + w) ∧
  (∀ v : Int, 0 ≤ v → v < N → σ 22 v < 1000000000 → B v (σ 22 v) ∨ ∃ u w : Int, (0 ≤ u ∧ u < N) ∧ E v u w ∧ σ 22 u < 1000000000 ∧ ¬ HIn σ u ∧ σ 22 v = σ 22 u + w) ∧
  (∀ v : Int, 0 ≤ v → v < N → σ 22 v < 1000000000 → ¬ HIn σ v → σ 22 v ≤ κ)
theorem DI_offer {K : zS → Prop} {B Bd : Int → Int → Prop} {E : Int → Int → Int → Prop} {N : Nat} {κ : Int} {Cl : Int → Prop} {σ : zS} {v x : Int} (hN : N ≤ 2592) (h : DI B Bd E N κ Cl σ) (hv0 : 0 ≤ v) (hv : v < N) (hx0 : 0 ≤ x) (hκ : κ ≤ x) (hx : x ≤ 319000 * ((cnt (fun i => decide (σ 22 (i : Nat) < 1000000000)) N : Nat) + 1) + (v / 648) * 1200000) (hs : B v x ∨ ∃ u w : Int, (0 ≤ u ∧ u < N) ∧ E v u w ∧ σ 22 u < 1000000000 ∧ ¬ HIn σ u ∧ x = σ 22 u + w) (hK : ∀ τ, zQ [21, 22, 23, 24] σ τ → DI B Bd E N κ Cl τ → τ 22 v ≤ x → (∀ y : Int, 0 ≤ y → y < N → τ 22 y ≤ σ 22 y ∧ (σ 22 y < 1000000000 → ¬ HIn σ y → τ 22 y = σ 22 y ∧ ¬ HIn τ y) ∧ (τ 22 y < 1000000000 → ¬ HIn τ y → σ 22 y < 1000000000 ∧ ¬ HIn σ y)) → K τ) : q_H_offer v x K σ := by
  obtain ⟨hP, h1, h2, h3, h4, h5, h6, h7⟩ := id h
  have hcle := cnt_le (fun i => decide (σ 22 (i : Nat) < 1000000000)) N
  have hxF : x < 1000000000 := by omega
  have hv1 := h1 v hv0 hv
  refine t_H_offer hP ⟨hv0, by omega⟩ hxF (fun hlt => ⟨fun e hi => ?_, fun e => ?_⟩) (fun hle => hK σ (zQ_r _ _) h hle (fun y _ _ => ⟨Int.le_refl _, fun _ q => ⟨rfl, q⟩, fun a b => ⟨a, b⟩⟩)) (fun hlt τ hq e22 hP' hm => ?_)
  · have := (h2 v hi).2.2.1
    omega
  · by_cases hi : HIn σ v
    · exact hi
    · have := h7 v hv0 hv (by omega) hi
      omega
  · have hset : ∀ y : Int, 0 ≤ y → y < N → σ 22 y < 1000000000 → ¬ HIn σ y → τ 22 y = σ 22 y ∧ ¬ HIn τ y := by
      intro y y0 y1 yf yn
      have hne : y ≠ v := by
        intro e
        rw [e] at yf yn
        have := h7 v hv0 hv yf yn
        omega
      exact ⟨by rw [e22, up_o hne], fun q => by rcases (hm y).mp q with q | q; exact yn q; exact hne q⟩
    have hle : ∀ y, τ 22 y ≤ σ 22 y := fun y => by
      rw [e22]
      by_cases e : y = v
      · rw [e, up_s]; omega
      · rw [up_o e]; omega
    have hv2 : τ 22 v = x := by rw [e22, up_s]
    have hc := cnt_up (N := N) (d := σ 22) (v := v) (x := x) hv0 hv hxF
    rw [← e22] at hc
    refine hK τ hq ⟨hP', fun y y0 y1 => ?_, fun y hy => ?_, fun y hy => ?_, fun y b hb => Int.le_trans (hle y) (h4 y b hb), fun a' u w he hu => ?_, fun y y0 y1 yf => ?_, fun y y0 y1 yf yn => ?_⟩ (by omega) (fun y y0 y1 => ⟨hle y, hset y y0 y1, fun a b => by
      have hne : y ≠ v := fun e => b ((hm y).mpr (Or.inr e))
      rw [e22, up_o hne] at a
      exact ⟨a, fun q => b ((hm y).mpr (Or.inl q))⟩⟩)
    · have a := h1 y y0 y1
      by_cases e : y = v
      · subst e
        rw [hv2]
        refine ⟨hx0, by omega, fun _ => ?_⟩
        split at hc
        · rename_i hf
          have := a.2.2 hf
          omega
        · omega
      · rw [show τ 22 y = σ 22 y by rw [e22, up_o e]]
        exact ⟨a.1, a.2.1, fun q => by have := a.2.2 q; split at hc <;> omega⟩
    · rcases (hm y).mp hy with q | q
      · have a := h2 y q
        by_cases e : y = v
        · subst e
          rw [hv2]
          exact ⟨a.1, a.2.1, hxF, hκ⟩
        · rw [show τ 22 y = σ 22 y by rw [e22, up_o e]]
          exact a
      · subst q
        rw [hv2]
        exact ⟨hv0, hv, hxF, hκ⟩
    · have a := h3 y hy
      have b := hset y a.1 a.2.1 a.2.2.1 a.2.2.2
      rw [b.1]
      exact ⟨a.1, a.2.1, a.2.2.1, b.2⟩
    · have a := h3 u hu
      have b := hset u a.1 a.2.1 a.2.2.1 a.2.2.2
      rw [b.1]
      exact Int.le_trans (hle _) (h5 a' u w he hu)
    · by_cases e : y = v
      · subst e
        rw [hv2]
        rcases hs with q | ⟨u, w, q1, q2, q3, q4, q5⟩
        · exact Or.inl q
        · have b := hset u q1.1 q1.2 q3 q4
          exact Or.inr ⟨u, w, q1, q2, by rw [b.1]; exact q3, b.2, by rw [b.1]; exact q5⟩
      · have e2 : τ 22 y = σ 22 y := by rw [e22, up_o e]
        rw [e2] at yf ⊢
        rcases h6 y y0 y1 yf with q | ⟨u, w, q1, q2, q3, q4, q5⟩
        · exact Or.inl q
        · have b := hset u q1.1 q1.2 q3 q4
          exact Or.inr ⟨u, w, q1, q2, by rw [b.1]; exact q3, b.2, by rw [b.1]; exact q5⟩
    · have hne : y ≠ v := fun e => yn ((hm y).mpr (Or.inr e))
      have e2 : τ 22 y = σ 22 y := by rw [e22, up_o hne]
      rw [e2] at yf ⊢
      exact h7 y y0 y1 yf (fun q => yn ((hm y).mpr (Or.inl q)))
/-- what a search leaves, by the true labels D -/
def SrP (N : Nat) (stop : Int) (D d : Int → Int) : Prop := (∀ v : Int, 0 ≤ v → v < N → D v ≤ d v) ∧ ((∀ v : Int, 0 ≤ v → v < N → d v = D v) ∨ ∃ x : Int, (0 ≤ x ∧ x < N) ∧ x % 648 / 8 = stop ∧ D x < 1000000000 ∧ ∀ v : Int, 0 ≤ v → v < N → D v ≤ D x → d v = D v)
theorem DI_sp {B Bd : Int → Int → Prop} {E : Int → Int → Int → Prop} {N : Nat} {κ : Int} {Cl : Int → Prop} {σ : zS} (h : DI B Bd E N κ Cl σ) : LSp 1000000000 (fun v : Int => 0 ≤ v ∧ v < N) B E (σ 22) := by
  obtain ⟨-, -, -, -, -, -, h6, -⟩ := h
  intro v hv hf
  rcases h6 v hv.1 hv.2 hf with q | ⟨u, w, q1, q2, q3, q4, q5⟩
  · exact Or.inl q
  · exact Or.inr ⟨u, w, q1, q2, q3, by omega⟩
theorem DI_all {B : Int → Int → Prop} {E : Int → Int → Int → Prop} {N : Nat} {κ : Int} {Cl : Int → Prop} {σ : zS} (hEV : ∀ v u w, E v u w → 0 ≤ u ∧ u < N) (h : DI B B E N κ Cl σ) (hn : ∀ v, ¬ HIn σ v) (hcl : ∀ v : Int, 0 ≤ v → v < N → σ 22 v < 1000000000 → ¬ HIn σ v → Cl v) : Lab 1000000000 (fun v : Int => 0 ≤ v ∧ v < N) B E (σ 22) := by
  obtain ⟨-, h1, -, -, h4, h5, -, -⟩ := id h
  refine ⟨⟨h4, fun v u w he hf => ?_⟩, DI_sp h, fun v hv => ⟨(h1 v hv.1 hv.2).1, (h1 v hv.1 hv.2).2.1⟩⟩
  have := hEV v u w he
  exact h5 v u w he (hcl u this.1 this.2 hf (hn u))
theorem DI_stop {B : Int → Int → Prop} {E : Int → Int → Int → Prop} {N : Nat} {κ : Int} {Cl : Int → Prop} {σ : zS} {x stop : Int} {D : Int → Int} (hE : ∀ v u w, E v u w → 1 ≤ w) (hEV : ∀ v u w, E v u w → 0 ≤ u ∧ u < N) (h : DI B B E N κ Cl σ) (hx0 : 0 ≤ x) (hx1 : x < N) (hxf : σ 22 x < 1000000000) (hxκ : σ 22 x = κ) (hcl : ∀ v : Int, 0 ≤ v → v < N → σ 22 v < 1000000000 → ¬ HIn σ v → v ≠ x → Cl v) (hst : x % 648 / 8 = stop) (hD : Lab 1000000000 (fun v : Int => 0 ≤ v ∧ v < N) B E D) : SrP N stop D (σ 22) := by
  obtain ⟨-, h1, h2, -, h4, h5, -, -⟩ := id h
  have lo : ∀ v : Int, 0 ≤ v → v < N → D v ≤ σ 22 v := by
    intro v v0 v1
    have a := lab_le hE hD.1 (DI_sp h) (fun u hu => (h1 u hu.1 hu.2).1) v ⟨v0, v1⟩
    have b := hD.2.2 v ⟨v0, v1⟩
    have c := h1 v v0 v1
    by_cases e : σ 22 v < 1000000000
    · exact a e
    · omega
  have key : ∀ n : Nat, ∀ v : Int, 0 ≤ v → v < N → D v ≤ κ → (D v).toNat < n → σ 22 v ≤ D v := by
    intro n
    induction n with
    | zero => intro v _ _ _ h; exact absurd h (Nat.not_lt_zero _)
    | succ n ih =>
      intro v v0 v1 hk hn
      rcases hD.2.1 v ⟨v0, v1⟩ (by omega) with q | ⟨u, w, q1, q2, q3, q4⟩
      · exact h4 v _ q
      · have a := hE v u w q2
        have b := (hD.2.2 u q1).1
        have c := ih u q1.1 q1.2 (by omega) (by omega)
        have hni : ¬ HIn σ u := fun hi => by
          have := (h2 u hi).2.2.2
          omega
        have hcu := hcl u q1.1 q1.2 (by omega) hni (fun e => by have z : σ 22 u = κ := (by rw [e]; exact hxκ); omega)
        have := h5 v u w q2 hcu
        omega
  have ex := key _ x hx0 hx1 (by have := lo x hx0 hx1; omega) (Nat.lt_succ_self _)
  have ex2 := lo x hx0 hx1
  refine ⟨lo, Or.inr ⟨x, ⟨hx0, hx1⟩, hst, by omega, fun v v0 v1 hv => ?_⟩⟩
  have a := lo v v0 v1
  have b := key _ v v0 v1 (by omega) (Nat.lt_succ_self _)
  omega
