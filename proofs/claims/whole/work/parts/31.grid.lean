/-! ===== the grid ===== -/
def dR (g : Int) : Int := if g = 0 ∨ g = 1 ∨ g = 7 then -1 else if g = 2 ∨ g = 6 then 0 else 1
def dC (g : Int) : Int := if g = 0 ∨ g = 4 then 0 else if g = 1 ∨ g = 2 ∨ g = 3 then 1 else -1
def bes (W D p g : Int) : Int := if 0 ≤ p / W + dR g ∧ p / W + dR g < D ∧ 0 ≤ p % W + dC g ∧ p % W + dC g < W then (p / W + dR g) * W + (p % W + dC g) else -1
abbrev bs (L : Int → Int) (p g : Int) : Int := bes (L 0) (L 1) p g
def opp (g : Int) : Int := (g + 4) % 8
theorem g8 {g : Int} (h0 : 0 ≤ g) (h1 : g < 8) : g = 0 ∨ g = 1 ∨ g = 2 ∨ g = 3 ∨ g = 4 ∨ g = 5 ∨ g = 6 ∨ g = 7 := by omega
theorem opp_r {g : Int} : 0 ≤ opp g ∧ opp g < 8 := by
  unfold opp
  omega
theorem opp_opp {g : Int} (h0 : 0 ≤ g) (h1 : g < 8) : opp (opp g) = g := by
  unfold opp
  omega
theorem dR_opp {g : Int} (h0 : 0 ≤ g) (h1 : g < 8) : dR (opp g) = - dR g := by
  rcases g8 h0 h1 with e | e | e | e | e | e | e | e <;> subst e <;> decide
theorem dC_opp {g : Int} (h0 : 0 ≤ g) (h1 : g < 8) : dC (opp g) = - dC g := by
  rcases g8 h0 h1 with e | e | e | e | e | e | e | e <;> subst e <;> decide
theorem dRC_b (g : Int) : (-1 ≤ dR g ∧ dR g ≤ 1) ∧ (-1 ≤ dC g ∧ dC g ≤ 1) := by
  unfold dR dC
  constructor <;> repeat' split
  all_goals omega
theorem dRC_inj {g h : Int} (h0 : 0 ≤ g) (h1 : g < 8) (h2 : 0 ≤ h) (h3 : h < 8) (e1 : dR g = dR h) (e2 : dC g = dC h) : g = h := by
  rcases g8 h0 h1 with e | e | e | e | e | e | e | e <;> subst e <;> rcases g8 h2 h3 with e | e | e | e | e | e | e | e <;> subst e <;> first | rfl | (exfalso; revert e1 e2; decide)
theorem gr_dm {W r c : Int} (h0 : 0 ≤ c) (h1 : c < W) : (r * W + c) / W = r ∧ (r * W + c) % W = c := by
  have hW : W ≠ 0 := by omega
  constructor
  · rw [Int.add_comm, Int.add_mul_ediv_right _ _ hW, Int.ediv_eq_zero_of_lt h0 h1]
    omega
  · rw [Int.add_comm, Int.add_mul_emod_self_right, Int.emod_eq_of_lt h0 h1]
theorem gr_p {W p : Int} : p / W * W + p % W = p := by
  rw [Int.mul_comm]
  exact Int.mul_ediv_add_emod p W
theorem gr_rc {W D p : Int} (hW : 0 < W) (h0 : 0 ≤ p) (h1 : p < W * D) : 0 ≤ p / W ∧ p / W < D ∧ 0 ≤ p % W ∧ p % W < W :=
  ⟨Int.ediv_nonneg h0 (by omega), Int.ediv_lt_of_lt_mul hW (by rw [Int.mul_comm]; exact h1), Int.emod_nonneg _ (by omega), Int.emod_lt_of_pos _ hW⟩
theorem gr_in {W D r c : Int} (hr0 : 0 ≤ r) (hr : r < D) (hc0 : 0 ≤ c) (hc : c < W) : 0 ≤ r * W + c ∧ r * W + c < W * D := by
  have h1 : 0 ≤ r * W := Int.mul_nonneg hr0 (by omega)
  have h2 : (r + 1) * W ≤ D * W := Int.mul_le_mul_of_nonneg_right (by omega) (by omega)
  rw [Int.add_mul, Int.one_mul, Int.mul_comm D W] at h2
  omega
theorem bes_co {W D p g : Int} (h : bes W D p g ≠ -1) : bes W D p g / W = p / W + dR g ∧ bes W D p g % W = p % W + dC g ∧ 0 ≤ bes W D p g ∧ bes W D p g < W * D ∧ 0 ≤ p / W + dR g ∧ p / W + dR g < D ∧ 0 ≤ p % W + dC g ∧ p % W + dC g < W := by
  unfold bes at h ⊢
  split at h
  · rename_i c
    rw [if_pos c]
    obtain ⟨c1, c2, c3, c4⟩ := c
    exact ⟨(gr_dm c3 c4).1, (gr_dm c3 c4).2, (gr_in c1 c2 c3 c4).1, (gr_in c1 c2 c3 c4).2, c1, c2, c3, c4⟩
  · exact absurd rfl h
theorem bes_or (W D p g : Int) : bes W D p g = -1 ∨ (bes W D p g ≠ -1 ∧ 0 ≤ bes W D p g ∧ bes W D p g < W * D) := by
  by_cases h : bes W D p g = -1
  · exact Or.inl h
  · exact Or.inr ⟨h, (bes_co h).2.2.1, (bes_co h).2.2.2.1⟩
theorem bes_mk {W D p g r c : Int} (hr : p / W + dR g = r) (hc : p % W + dC g = c) (h1 : 0 ≤ r) (h2 : r < D) (h3 : 0 ≤ c) (h4 : c < W) : bes W D p g = r * W + c := by
  unfold bes
  rw [hr, hc, if_pos ⟨h1, h2, h3, h4⟩]
theorem bes_opp {W D p g : Int} (hW : 0 < W) (hp0 : 0 ≤ p) (hp : p < W * D) (h0 : 0 ≤ g) (h1 : g < 8) (h : bes W D p g ≠ -1) : bes W D (bes W D p g) (opp g) = p := by
  obtain ⟨e1, e2, -⟩ := bes_co h
  have := gr_rc hW hp0 hp
  rw [bes_mk (r := p / W) (c := p % W) (by rw [e1, dR_opp h0 h1]; omega) (by rw [e2, dC_opp h0 h1]; omega) this.1 this.2.1 this.2.2.1 this.2.2.2]
  exact gr_p
theorem bes_inj {W D p g h : Int} (h0 : 0 ≤ g) (h1 : g < 8) (h2 : 0 ≤ h) (h3 : h < 8) (e : bes W D p g = bes W D p h) (hn : bes W D p g ≠ -1) : g = h := by
  obtain ⟨a1, a2, -⟩ := bes_co hn
  obtain ⟨b1, b2, -⟩ := bes_co (e ▸ hn)
  rw [e] at a1 a2
  exact dRC_inj h0 h1 h2 h3 (by omega) (by omega)
theorem bes_ne {W D p g : Int} (h0 : 0 ≤ g) (h1 : g < 8) (h : bes W D p g ≠ -1) : bes W D p g ≠ p := by
  intro e
  obtain ⟨a1, a2, -⟩ := bes_co h
  rw [e] at a1 a2
  have e1 : dR g = 0 := by omega
  have e2 : dC g = 0 := by omega
  rcases g8 h0 h1 with e | e | e | e | e | e | e | e <;> subst e <;> revert e1 e2 <;> decide
theorem bes_side {W D p g : Int} (hW : 0 < W) (hp0 : 0 ≤ p) (hp : p < W * D) (h0 : 0 ≤ g) (h1 : g < 8) (ho : g % 2 ≠ 0) (h : bes W D p g ≠ -1) :
    bes W D p (g - 1) ≠ -1 ∧ bes W D p ((g + 1) % 8) ≠ -1 ∧ bes W D (bes W D p g) (opp g - 1) = bes W D p ((g + 1) % 8) ∧ bes W D (bes W D p g) ((opp g + 1) % 8) = bes W D p (g - 1) := by
  obtain ⟨e1, e2, e3, e4, c1, c2, c3, c4⟩ := bes_co h
  obtain ⟨r1, r2, r3, r4⟩ := gr_rc hW hp0 hp
  generalize bes W D p g = q at *
  have key : ∀ r c : Int, 0 ≤ r → r < D → 0 ≤ c → c < W → ∀ a b x y : Int, a / W + dR x = r → a % W + dC x = c → b / W + dR y = r → b % W + dC y = c → bes W D a x ≠ -1 ∧ bes W D a x = bes W D b y := by
    intro r c h1 h2 h3 h4 a b x y k1 k2 k3 k4
    rw [bes_mk k1 k2 h1 h2 h3 h4, bes_mk k3 k4 h1 h2 h3 h4]
    have := gr_in h1 h2 h3 h4
    exact ⟨by omega, rfl⟩
  have m : ∀ x y : Int, (dR g = 0 ∧ True) ∨ True := fun _ _ => Or.inr trivial
  clear m
  rcases g8 h0 h1 with e | e | e | e | e | e | e | e <;> subst e
  · exact absurd rfl ho
  · have d1 : dR 1 = -1 := by decide
    have d2 : dC 1 = 1 := by decide
    rw [d1] at e1 c1 c2
    rw [d2] at e2 c3 c4
    have a1 := key (p / W + -1) (p % W) c1 c2 r3 r4 p q 0 6 (by rw [show dR 0 = -1 by decide]) (by rw [show dC 0 = 0 by decide]; omega) (by rw [show dR 6 = 0 by decide]; omega) (by rw [show dC 6 = -1 by decide]; omega)
    have a2 := key (p / W) (p % W + 1) r1 r2 c3 c4 p q 2 4 (by rw [show dR 2 = 0 by decide]; omega) (by rw [show dC 2 = 1 by decide]) (by rw [show dR 4 = 1 by decide]; omega) (by rw [show dC 4 = 0 by decide]; omega)
    exact ⟨a1.1, a2.1, a2.2.symm, a1.2.symm⟩
  · exact absurd rfl ho
  · have d1 : dR 3 = 1 := by decide
    have d2 : dC 3 = 1 := by decide
    rw [d1] at e1 c1 c2
    rw [d2] at e2 c3 c4
    have a1 := key (p / W) (p % W + 1) r1 r2 c3 c4 p q 2 0 (by rw [show dR 2 = 0 by decide]; omega) (by rw [show dC 2 = 1 by decide]) (by rw [show dR 0 = -1 by decide]; omega) (by rw [show dC 0 = 0 by decide]; omega)
    have a2 := key (p / W + 1) (p % W) c1 c2 r3 r4 p q 4 6 (by rw [show dR 4 = 1 by decide]) (by rw [show dC 4 = 0 by decide]; omega) (by rw [show dR 6 = 0 by decide]; omega) (by rw [show dC 6 = -1 by decide]; omega)
    exact ⟨a1.1, a2.1, a2.2.symm, a1.2.symm⟩
  · exact absurd rfl ho
  · have d1 : dR 5 = 1 := by decide
    have d2 : dC 5 = -1 := by decide
    rw [d1] at e1 c1 c2
    rw [d2] at e2 c3 c4
    have a1 := key (p / W + 1) (p % W) c1 c2 r3 r4 p q 4 2 (by rw [show dR 4 = 1 by decide]) (by rw [show dC 4 = 0 by decide]; omega) (by rw [show dR 2 = 0 by decide]; omega) (by rw [show dC 2 = 1 by decide]; omega)
    have a2 := key (p / W) (p % W + -1) r1 r2 c3 c4 p q 6 0 (by rw [show dR 6 = 0 by decide]; omega) (by rw [show dC 6 = -1 by decide]) (by rw [show dR 0 = -1 by decide]; omega) (by rw [show dC 0 = 0 by decide]; omega)
    exact ⟨a1.1, a2.1, a2.2.symm, a1.2.symm⟩
  · exact absurd rfl ho
  · have d1 : dR 7 = -1 := by decide
    have d2 : dC 7 = -1 := by decide
    rw [d1] at e1 c1 c2
    rw [d2] at e2 c3 c4
    have a1 := key (p / W) (p % W + -1) r1 r2 c3 c4 p q 6 4 (by rw [show dR 6 = 0 by decide]; omega) (by rw [show dC 6 = -1 by decide]) (by rw [show dR 4 = 1 by decide]; omega) (by rw [show dC 4 = 0 by decide]; omega)
    have a2 := key (p / W + -1) (p % W) c1 c2 r3 r4 p q 0 2 (by rw [show dR 0 = -1 by decide]) (by rw [show dC 0 = 0 by decide]; omega) (by rw [show dR 2 = 0 by decide]; omega) (by rw [show dC 2 = 1 by decide]; omega)
    exact ⟨a1.1, a2.1, a2.2.symm, a1.2.symm⟩
/-- at the edge: some heading leads nowhere -/
theorem bes_edge {W D p : Int} (hW : 0 < W) (hp0 : 0 ≤ p) (hp : p < W * D) : (p / W = 0 ∨ p / W = D - 1 ∨ p % W = 0 ∨ p % W = W - 1) ↔ ∃ g, 0 ≤ g ∧ g < 8 ∧ bes W D p g = -1 := by
  obtain ⟨r1, r2, r3, r4⟩ := gr_rc hW hp0 hp
  constructor
  · intro h
    have out : ∀ g, ¬ (0 ≤ p / W + dR g ∧ p / W + dR g < D ∧ 0 ≤ p % W + dC g ∧ p % W + dC g < W) → bes W D p g = -1 := fun g hg => by
      unfold bes
      exact if_neg hg
    rcases h with h | h | h | h
    · exact ⟨0, by decide, by decide, out 0 (by rw [show dR 0 = -1 by decide]; omega)⟩
    · exact ⟨4, by decide, by decide, out 4 (by rw [show dR 4 = 1 by decide]; omega)⟩
    · exact ⟨6, by decide, by decide, out 6 (by rw [show dC 6 = -1 by decide]; omega)⟩
    · exact ⟨2, by decide, by decide, out 2 (by rw [show dC 2 = 1 by decide]; omega)⟩
  · rintro ⟨g, g0, g1, h⟩
    unfold bes at h
    split at h
    · rename_i c
      have := gr_in c.1 c.2.1 c.2.2.1 c.2.2.2
      omega
    · rename_i c
      have := dRC_b g
      omega
/-- the heading between two places beside each other -/
def hdg (W p q : Int) : Int := if q / W - p / W < 0 then (if q % W - p % W < 0 then 7 else q % W - p % W) else if q / W - p / W = 0 then (if q % W - p % W < 0 then 6 else 2) else 4 - (q % W - p % W)
theorem hdg_eq {W D p g : Int} (h0 : 0 ≤ g) (h1 : g < 8) (h : bes W D p g ≠ -1) : hdg W p (bes W D p g) = g := by
  obtain ⟨e1, e2, -⟩ := bes_co h
  unfold hdg
  rw [e1, e2, show p / W + dR g - p / W = dR g by omega, show p % W + dC g - p % W = dC g by omega]
  rcases g8 h0 h1 with e | e | e | e | e | e | e | e <;> subst e <;> decide
/-! ===== what a land is ===== -/
/-- the numbers of a land that has places: its size, its terms, its heights, what is wet -/
def GW (L : Int → Int) : Prop :=
  (2 ≤ L 0 ∧ L 0 ≤ 9 ∧ 2 ≤ L 1 ∧ L 1 ≤ 9) ∧
  (1 ≤ L 2 ∧ L 2 ≤ 99 ∧ 0 ≤ L 3 ∧ L 3 ≤ 4 ∧ 0 ≤ L 4 ∧ L 4 ≤ 99 ∧ 0 ≤ L 5 ∧ L 5 ≤ 9 ∧ 0 ≤ L 6 ∧ L 6 ≤ 9 ∧ 0 ≤ L 7 ∧ L 7 ≤ 99 ∧ 0 ≤ L 8 ∧ L 8 ≤ 99 ∧ 0 ≤ L 9 ∧ L 9 ≤ 3 ∧ 0 ≤ L 10 ∧ L 10 ≤ 9 ∧ 0 ≤ L 11 ∧ L 11 ≤ 9 ∧ 0 ≤ L 12 ∧ L 12 ≤ 30) ∧
  (∀ p, 0 ≤ p → p < 81 → 0 ≤ L (13 + p) ∧ L (13 + p) ≤ 99) ∧
  (∀ p, 0 ≤ p → p < 81 → L (94 + p) = 0 ∨ L (94 + p) = 1)
def inP (L : Int → Int) (p : Int) : Prop := 0 ≤ p ∧ p < L 0 * L 1
theorem mul_bd {a b : Int} (h1 : 2 ≤ a) (h2 : a ≤ 9) (h3 : 2 ≤ b) (h4 : b ≤ 9) : 4 ≤ a * b ∧ a * b ≤ 81 := by
  have : a = 2 ∨ a = 3 ∨ a = 4 ∨ a = 5 ∨ a = 6 ∨ a = 7 ∨ a = 8 ∨ a = 9 := by omega
  rcases this with e | e | e | e | e | e | e | e <;> subst e <;> omega
theorem GW.n {L : Int → Int} (h : GW L) : 4 ≤ L 0 * L 1 ∧ L 0 * L 1 ≤ 81 := mul_bd h.1.1 h.1.2.1 h.1.2.2.1 h.1.2.2.2
theorem inP.b {L : Int → Int} {p : Int} (hL : GW L) (h : inP L p) : 0 ≤ p ∧ p < 81 := ⟨h.1, by have := hL.n; have := h.2; omega⟩
theorem GW.W {L : Int → Int} (h : GW L) : 0 < L 0 := by have := h.1.1; omega
theorem bs_or {L : Int → Int} (p g : Int) : bs L p g = -1 ∨ (bs L p g ≠ -1 ∧ inP L (bs L p g)) := by
  rcases bes_or (L 0) (L 1) p g with h | h
  · exact Or.inl h
  · exact Or.inr ⟨h.1, h.2.1, h.2.2⟩
theorem bs_in {L : Int → Int} {p g : Int} (h : bs L p g ≠ -1) : inP L (bs L p g) := ⟨(bes_co h).2.2.1, (bes_co h).2.2.2.1⟩
theorem bs_opp {L : Int → Int} {p g : Int} (hL : GW L) (hp : inP L p) (h0 : 0 ≤ g) (h1 : g < 8) (h : bs L p g ≠ -1) : bs L (bs L p g) (opp g) = p := bes_opp hL.W hp.1 hp.2 h0 h1 h
theorem bs_inj {L : Int → Int} {p g h : Int} (h0 : 0 ≤ g) (h1 : g < 8) (h2 : 0 ≤ h) (h3 : h < 8) (e : bs L p g = bs L p h) (hn : bs L p g ≠ -1) : g = h := bes_inj h0 h1 h2 h3 e hn
def lng (g : Int) : Int := if g % 2 = 0 then 10 else 14
def dif (L : Int → Int) (p q : Int) : Int := if L (13 + p) < L (13 + q) then L (13 + q) - L (13 + p) else L (13 + p) - L (13 + q)
def eig (g h : Int) : Int := if (if g < h then h - g else g - h) > 4 then 8 - (if g < h then h - g else g - h) else (if g < h then h - g else g - h)
def Steep (L : Int → Int) (p g : Int) : Prop := L 2 * lng g < 100 * dif L p (bs L p g)
def Opn (L : Int → Int) (A B p g : Int) : Prop := bs L p g ≠ -1 ∧ L (94 + p) ≠ 1 ∧ L (94 + bs L p g) ≠ 1 ∧ ¬ (p = A ∧ bs L p g = B) ∧ ¬ (p = B ∧ bs L p g = A) ∧ (g % 2 = 0 ∨ L (94 + bs L p (g - 1)) ≠ 1 ∨ L (94 + bs L p ((g + 1) % 8)) ≠ 1)
def Sty (L : Int → Int) (A B p g : Int) : Prop := Opn L A B p g ∧ ¬ Steep L p g
def Flt (L : Int → Int) (p : Int) : Prop := ∀ g, 0 ≤ g → g < 8 → bs L p g ≠ -1 → dif L p (bs L p g) ≤ L 4
def Bnd (L : Int → Int) (p g h : Int) : Prop := eig g h ≤ L 3 ∨ Flt L p
def bcs (L : Int → Int) (g h : Int) : Int := if eig g h ≤ L 3 then L 6 * eig g h else L 7
def clb (L : Int → Int) (p q : Int) : Int := if L (13 + p) < L (13 + q) then L (13 + q) - L (13 + p) else 0
def cst (L : Int → Int) (p g : Int) : Int := lng g + L 5 * dif L p (bs L p g)
theorem lng_or (g : Int) : lng g = 10 ∨ lng g = 14 := by
  unfold lng
  split <;> simp
theorem lng_opp {g : Int} : lng (opp g) = lng g := by
  unfold lng opp
  split <;> split <;> omega
theorem dif_sym (L : Int → Int) (p q : Int) : dif L p q = dif L q p := by
  unfold dif
  split <;> split <;> omega
theorem dif_b {L : Int → Int} (hL : GW L) {p q : Int} (hp : inP L p) (hq : inP L q) : 0 ≤ dif L p q ∧ dif L p q ≤ 99 := by
  have h1 := hL.2.2.1 p hp.1 (hp.b hL).2
  have h2 := hL.2.2.1 q hq.1 (hq.b hL).2
  unfold dif
  split <;> omega
theorem eig_b {g h : Int} (h0 : 0 ≤ g) (h1 : g < 8) (h2 : 0 ≤ h) (h3 : h < 8) : 0 ≤ eig g h ∧ eig g h ≤ 4 := by
  unfold eig
  split <;> split <;> omega
theorem eig_sym (g h : Int) : eig g h = eig h g := by
  unfold eig
  have : (if g < h then h - g else g - h) = (if h < g then g - h else h - g) := by split <;> split <;> omega
  rw [this]
theorem eig_mod {g h : Int} (h0 : 0 ≤ g) (h1 : g < 8) (h2 : 0 ≤ h) (h3 : h < 8) : eig g h = if (g - h) % 8 ≤ 4 then (g - h) % 8 else 8 - (g - h) % 8 := by
  unfold eig
  split <;> split <;> split <;> omega
theorem eig_opp {g h : Int} (h0 : 0 ≤ g) (h1 : g < 8) (h2 : 0 ≤ h) (h3 : h < 8) : eig (opp g) (opp h) = eig g h := by
  rw [eig_mod opp_r.1 opp_r.2 opp_r.1 opp_r.2, eig_mod h0 h1 h2 h3]
  have : (opp g - opp h) % 8 = (g - h) % 8 := by
    unfold opp
    omega
  rw [this]
theorem mul_le {a b A B : Int} (ha : 0 ≤ a) (hA : a ≤ A) (hb : 0 ≤ b) (hB : b ≤ B) : 0 ≤ a * b ∧ a * b ≤ A * B :=
  ⟨Int.mul_nonneg ha hb, Int.le_trans (Int.mul_le_mul_of_nonneg_right hA hb) (Int.mul_le_mul_of_nonneg_left hB (Int.le_trans ha hA))⟩
theorem cst_b {L : Int → Int} (hL : GW L) {p g : Int} (hp : inP L p) (h : bs L p g ≠ -1) : 10 ≤ cst L p g ∧ cst L p g ≤ 905 := by
  have h1 := dif_b hL hp (bs_in h)
  have h2 := hL.2.1
  have h3 := mul_le (a := L 5) (b := dif L p (bs L p g)) (A := 9) (B := 99) h2.2.2.2.2.2.2.1 h2.2.2.2.2.2.2.2.1 h1.1 h1.2
  unfold cst
  rcases lng_or g with e | e <;> rw [e] <;> omega
theorem bcs_b {L : Int → Int} (hL : GW L) {g h : Int} (h0 : 0 ≤ g) (h1 : g < 8) (h2 : 0 ≤ h) (h3 : h < 8) : 0 ≤ bcs L g h ∧ bcs L g h ≤ 99 := by
  have e := eig_b h0 h1 h2 h3
  obtain ⟨t1, t2, t3, t4, t5, t6, t7, t8, t9, t10, t11, t12, -⟩ := hL.2.1
  have h3 := mul_le (a := L 6) (b := eig g h) (A := 9) (B := 4) t9 t10 e.1 e.2
  unfold bcs
  split <;> omega
theorem clb_b {L : Int → Int} (hL : GW L) {p q : Int} (hp : inP L p) (hq : inP L q) : 0 ≤ clb L p q ∧ clb L p q ≤ 99 := by
  have h1 := hL.2.2.1 p hp.1 (hp.b hL).2
  have h2 := hL.2.2.1 q hq.1 (hq.b hL).2
  unfold clb
  split <;> omega
/-- a step to is one fro -/
theorem Opn_opp {L : Int → Int} (hL : GW L) {A B p g : Int} (hp : inP L p) (h0 : 0 ≤ g) (h1 : g < 8) (h : Opn L A B p g) : Opn L A B (bs L p g) (opp g) := by
  obtain ⟨a1, a2, a3, a4, a5, a6⟩ := h
  have e := bs_opp hL hp h0 h1 a1
  unfold Opn
  rw [e]
  refine ⟨by have := hp.1; omega, a3, a2, fun q => a5 ⟨q.2, q.1⟩, fun q => a4 ⟨q.2, q.1⟩, ?_⟩
  by_cases ho : g % 2 = 0
  · exact Or.inl (by unfold opp; omega)
  · have s := bes_side hL.W hp.1 hp.2 h0 h1 ho a1
    rcases a6 with q | q | q
    · exact absurd q ho
    · exact Or.inr (Or.inr (by rw [show bs L (bs L p g) ((opp g + 1) % 8) = bs L p (g - 1) from s.2.2.2]; exact q))
    · exact Or.inr (Or.inl (by rw [show bs L (bs L p g) (opp g - 1) = bs L p ((g + 1) % 8) from s.2.2.1]; exact q))
theorem Steep_opp {L : Int → Int} (hL : GW L) {p g : Int} (hp : inP L p) (h0 : 0 ≤ g) (h1 : g < 8) (h : bs L p g ≠ -1) : Steep L (bs L p g) (opp g) ↔ Steep L p g := by
  unfold Steep
  rw [bs_opp hL hp h0 h1 h, lng_opp, dif_sym]
theorem Sty_opp {L : Int → Int} (hL : GW L) {A B p g : Int} (hp : inP L p) (h0 : 0 ≤ g) (h1 : g < 8) (h : Sty L A B p g) : Sty L A B (bs L p g) (opp g) :=
  ⟨Opn_opp hL hp h0 h1 h.1, fun q => h.2 ((Steep_opp hL hp h0 h1 h.1.1).mp q)⟩
theorem cst_opp {L : Int → Int} (hL : GW L) {p g : Int} (hp : inP L p) (h0 : 0 ≤ g) (h1 : g < 8) (h : bs L p g ≠ -1) : cst L (bs L p g) (opp g) = cst L p g := by
  unfold cst
  rw [bs_opp hL hp h0 h1 h, lng_opp, dif_sym]
theorem Bnd_sym (L : Int → Int) (p g h : Int) : Bnd L p g h ↔ Bnd L p h g := by
  unfold Bnd
  rw [eig_sym]
theorem bcs_sym (L : Int → Int) (g h : Int) : bcs L g h = bcs L h g := by
  unfold bcs
  rw [eig_sym]
theorem Bnd_opp {L : Int → Int} {p g h : Int} (h0 : 0 ≤ g) (h1 : g < 8) (h2 : 0 ≤ h) (h3 : h < 8) : Bnd L p (opp g) (opp h) ↔ Bnd L p g h := by
  unfold Bnd
  rw [eig_opp h0 h1 h2 h3]
theorem bcs_opp {L : Int → Int} {g h : Int} (h0 : 0 ≤ g) (h1 : g < 8) (h2 : 0 ≤ h) (h3 : h < 8) : bcs L (opp g) (opp h) = bcs L g h := by
  unfold bcs
  rw [eig_opp h0 h1 h2 h3]
