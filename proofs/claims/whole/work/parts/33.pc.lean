/-! ===== the class's methods that only look ===== -/
noncomputable def cif (P : Prop) (a b : Int) : Int := @ite _ P (Classical.propDecidable P) a b
theorem cif_t {P : Prop} {a b : Int} (h : P) : cif P a b = a := @if_pos P (Classical.propDecidable P) h _ a b
theorem cif_f {P : Prop} {a b : Int} (h : ¬ P) : cif P a b = b := @if_neg P (Classical.propDecidable P) h _ a b
/-- the class's land is L, and besides is laid out by it -/
def CC (L : Int → Int) (σ : zS) : Prop := σ 4 = L ∧ ∀ p g, inP L p → 0 ≤ g → g < 8 → σ 5 (p * 8 + g) = bs L p g
theorem CC_U {L : Int → Int} {σ : zS} {o : Nat} {k v : Int} (h : CC L σ) (ho : o ≠ 4 ∧ o ≠ 5) : CC L (zU σ o k v) := by
  unfold CC
  rw [zU_row (Ne.symm ho.1), zU_row (Ne.symm ho.2)]
  exact h
theorem CC_Q {S : List Nat} {L : Int → Int} {σ τ : zS} (h : CC L σ) (hq : zQ S σ τ) (h1 : 4 ∉ S ∧ 5 ∉ S) : CC L τ := by
  unfold CC
  rw [hq 4 h1.1, hq 5 h1.2]
  exact h
section TC
variable {K : Int → zS → Prop} {σ : zS} {L : Int → Int} {p q g h r k : Int}
theorem t_R_longOf (h : K (lng g) σ) : q_R_longOf g K σ := by
  unfold q_R_longOf
  rw [zAnd_1]
  unfold lng at h
  refine ⟨fun c => ?_, fun c => ?_⟩
  · rw [if_neg c] at h
    exact h
  · rw [if_pos c] at h
    exact h
theorem t_R_opposite (h : K (opp g) σ) : q_R_opposite g K σ := by
  unfold q_R_opposite
  rw [zAnd_7]
  exact h
theorem t_R_eighths (hg : 0 ≤ g ∧ g < 8) (hh : 0 ≤ h ∧ h < 8) (hK : K (eig g h) σ) : q_R_eighths g h K σ := by
  unfold q_R_eighths
  rw [eig_mod hg.1 hg.2 hh.1 hh.2] at hK
  rintro x e
  rw [zAnd_7] at e
  rw [← e] at hK
  refine ⟨fun c => ?_, fun c => ⟨zRi (by omega) (by omega), ?_⟩⟩
  · rw [if_pos c] at hK
    exact hK
  · rw [if_neg (by omega)] at hK
    exact hK
theorem t_L_places (hc : CC L σ) (hn : 0 ≤ L 0 * L 1 ∧ L 0 * L 1 ≤ 81) (h : K (L 0 * L 1) σ) : q_L_places K σ := by
  unfold q_L_places
  rw [hc.1]
  exact ⟨zRi (by omega) (by omega), h⟩
theorem t_L_value {w v : Int} (hc : CC L σ) (hw : 0 ≤ w ∧ w < 11) (e : 2 + w = v) (h : K (L v) σ) : q_L_value w K σ := by
  unfold q_L_value
  rw [hc.1, e]
  exact ⟨by omega, h⟩
theorem t_L_height (hc : CC L σ) (hL : GW L) (hp : inP L p) (h : K (L (13 + p)) σ) : q_L_height p K σ := by
  have := hp.b hL
  unfold q_L_height
  rw [hc.1]
  exact ⟨by omega, h⟩
theorem t_L_isWet (hc : CC L σ) (hL : GW L) (hp : inP L p) (hT : L (94 + p) = 1 → K 1 σ) (hF : L (94 + p) ≠ 1 → K 0 σ) : q_L_isWet p K σ := by
  have h1 := hp.b hL
  have h2 := hL.2.2.2 p h1.1 h1.2
  unfold q_L_isWet
  rw [hc.1]
  exact ⟨fun c => by omega, fun c => ⟨by omega, fun d => hF (by omega), fun d => hT (by omega)⟩⟩
theorem t_L_besideOf (hc : CC L σ) (hL : GW L) (hp : inP L p) (hg : 0 ≤ g ∧ g < 8) (h : K (bs L p g) σ) : q_L_besideOf p g K σ := by
  have := hp.b hL
  unfold q_L_besideOf
  rw [hc.2 p g hp hg.1 hg.2]
  exact ⟨by omega, h⟩
theorem t_L_differ (hc : CC L σ) (hL : GW L) (hp : inP L p) (hq : inP L q) (h : K (dif L p q) σ) : q_L_differ p q K σ := by
  have h1 := hp.b hL
  have h2 := hq.b hL
  have h3 := dif_b hL hp hq
  unfold q_L_differ
  rw [hc.1]
  unfold dif at h h3
  refine ⟨by omega, by omega, fun x e => ?_⟩
  by_cases c : L (13 + p) < L (13 + q)
  · rw [if_pos c] at h h3
    rw [← e] at h h3
    exact ⟨zRi (by omega) (by omega), fun _ => h, fun d => by omega⟩
  · rw [if_neg c] at h h3
    refine ⟨zRi (by omega) (by omega), fun d => ?_, fun d => ⟨zRi (by omega) (by omega), ?_⟩⟩
    · rw [show L (13 + p) - L (13 + q) = x by omega] at h
      exact h
    · rw [show L (13 + p) - L (13 + q) = -x by omega] at h
      exact h
theorem t_L_isOpen (hc : CC L σ) (hL : GW L) (hp : inP L p) (hg : 0 ≤ g ∧ g < 8) (hT : Opn L (-1) (-1) p g → K 1 σ) (hF : ¬ Opn L (-1) (-1) p g → K 0 σ) : q_L_isOpen p g K σ := by
  unfold q_L_isOpen
  refine t_L_besideOf hc hL hp hg ⟨fun c => hF (fun o => o.1 c), fun c => ?_⟩
  have j : ¬ (p = -1 ∧ bs L p g = -1) := fun x => c x.2
  refine t_L_isWet hc hL hp (fun w => n1b (hF (fun o => o.2.1 w))) (fun w => n0b ?_)
  refine t_L_isWet hc hL (bs_in c) (fun w2 => n1a (hF (fun o => o.2.2.1 w2))) (fun w2 => n0a ?_)
  rw [zAnd_1]
  refine ⟨fun o => hT ⟨c, w, w2, j, j, Or.inl o⟩, fun o => ?_⟩
  have s := bes_side hL.W hp.1 hp.2 hg.1 hg.2 o c
  rw [zAnd_7, show (g - 1) % 8 = g - 1 by omega]
  refine t_L_besideOf hc hL hp (by omega) (t_L_isWet hc hL (bs_in s.1) (fun w3 => n1a ?_) (fun w3 => n0a (hT ⟨c, w, w2, j, j, Or.inr (Or.inl w3)⟩)))
  rw [zAnd_7]
  refine t_L_besideOf hc hL hp (by omega) (t_L_isWet hc hL (bs_in s.2.1) (fun w4 => n1b (hF (fun x => ?_))) (fun w4 => n0b (hT ⟨c, w, w2, j, j, Or.inr (Or.inr w4)⟩)))
  rcases x.2.2.2.2.2 with y | y | y
  · exact o y
  · exact y w3
  · exact y w4
/-- steep by another grade -/
def StG (L : Int → Int) (n p g : Int) : Prop := n * lng g < 100 * dif L p (bs L p g)
theorem t_L_isSteep {n : Int} (hc : CC L σ) (hL : GW L) (hn : 0 ≤ n ∧ n ≤ 99) (hp : inP L p) (hg : 0 ≤ g ∧ g < 8) (hb : bs L p g ≠ -1) (hT : StG L n p g → K 1 σ) (hF : ¬ StG L n p g → K 0 σ) : q_L_isSteep p g n K σ := by
  have h3 := dif_b hL hp (bs_in hb)
  unfold q_L_isSteep
  refine t_L_besideOf hc hL hp hg (t_L_differ hc hL hp (bs_in hb) (t_R_longOf ?_))
  have h5 : 0 ≤ n * lng g ∧ n * lng g ≤ 1386 := by rcases lng_or g with e | e <;> rw [e] <;> omega
  exact ⟨zRi (by omega) (by omega), zRi (by omega) (by omega), fun c => hF (by unfold StG; omega), fun c => hT c⟩
theorem t_L_canStep (hc : CC L σ) (hL : GW L) (hp : inP L p) (hg : 0 ≤ g ∧ g < 8) (hT : Sty L (-1) (-1) p g → K 1 σ) (hF : ¬ Sty L (-1) (-1) p g → K 0 σ) : q_L_canStep p g K σ := by
  have h4 := hL.2.1
  unfold q_L_canStep
  refine t_L_isOpen hc hL hp hg (fun o => n1a (t_L_value (v := 2) hc (by decide) rfl (t_L_isSteep hc hL (by omega) hp hg o.1 (fun s => n1b (hF (fun x => x.2 s))) (fun s => n0b (hT ⟨o, s⟩))))) (fun o => n0a (hF (fun x => o x.1)))
theorem t_L_isFlat (hc : CC L σ) (hL : GW L) (hp : inP L p) (hT : Flt L p → K 1 σ) (hF : ¬ Flt L p → K 0 σ) : q_L_isFlat p K σ := by
  unfold q_L_isFlat
  refine ⟨fun y s => s = σ ∧ 0 ≤ y ∧ y ≤ 8 ∧ ∀ g, 0 ≤ g → g < y → bs L p g ≠ -1 → dif L p (bs L p g) ≤ L 4, fun y _ => (8 - y).toNat, ⟨rfl, by decide, by decide, fun g a b => by omega⟩, ?_⟩
  rintro y s ⟨rfl, y0, y8, hI⟩ -
  refine ⟨fun c => hT (fun g a b => hI g a (by omega)), fun c => t_L_besideOf hc hL hp ⟨y0, c⟩ ⟨fun e => ?_, fun e => ?_⟩⟩
  · refine ⟨⟨rfl, by omega, by omega, fun g a b nb => ?_⟩, zRi (by omega) (by omega), by dsimp only; omega⟩
    by_cases eg : g = y
    · subst eg
      exact absurd e nb
    · exact hI g a (by omega) nb
  · refine t_L_differ hc hL hp (bs_in e) (t_L_value (v := 4) hc (by decide) rfl ?_)
    refine ⟨fun d => ⟨⟨rfl, by omega, by omega, fun g a b nb => ?_⟩, zRi (by omega) (by omega), by dsimp only; omega⟩, fun d => hF (fun f => ?_)⟩
    · by_cases eg : g = y
      · subst eg
        exact d
      · exact hI g a (by omega) nb
    · have := f y y0 c e
      omega
theorem t_L_stepCost (hc : CC L σ) (hL : GW L) (hp : inP L p) (hg : 0 ≤ g ∧ g < 8) (hb : bs L p g ≠ -1) (h : K (cst L p g) σ) : q_L_stepCost p g K σ := by
  have h1 := cst_b hL hp hb
  unfold q_L_stepCost
  exact t_R_longOf (t_L_value (v := 5) hc (by decide) rfl (t_L_besideOf hc hL hp hg (t_L_differ hc hL hp (bs_in hb) ⟨zRb h1.1 h1.2 (by decide) (by decide), h⟩)))
theorem t_L_bendCost (hc : CC L σ) (hL : GW L) (hk : 0 ≤ k ∧ k ≤ 4) (h : K (if k ≤ L 3 then L 6 * k else L 7) σ) : q_L_bendCost k K σ := by
  obtain ⟨t1, t2, t3, t4, t5, t6, t7, t8, t9, t10, t11, t12, -⟩ := hL.2.1
  unfold q_L_bendCost
  refine t_L_value (v := 3) hc (by decide) rfl ⟨fun c => t_L_value (v := 7) hc (by decide) rfl ?_, fun c => t_L_value (v := 6) hc (by decide) rfl ?_⟩
  · rw [if_neg (by omega)] at h
    exact h
  · rw [if_pos c] at h
    have h3 := mul_le (a := L 6) (b := k) (A := 9) (B := 4) t9 t10 hk.1 hk.2
    exact ⟨zRi (by omega) (by omega), h⟩
theorem t_L_roadSize (hc : CC L σ) (hr : 0 ≤ r ∧ r < 4) (h : K (L (175 + 81 * r)) σ) : q_L_roadSize r K σ := by
  unfold q_L_roadSize
  rw [hc.1, Int.mul_comm r 81]
  exact ⟨by omega, h⟩
theorem t_L_isBuilt (hc : CC L σ) (hr : 0 ≤ r ∧ r < 4) (hT : L (175 + 81 * r) ≠ 0 → K 1 σ) (hF : L (175 + 81 * r) = 0 → K 0 σ) : q_L_isBuilt r K σ := by
  unfold q_L_isBuilt
  exact t_L_roadSize hc hr ⟨hF, hT⟩
theorem t_L_roadPlace (hc : CC L σ) (hr : 0 ≤ r ∧ r < 4) (hk : 0 ≤ k ∧ k < 80) (h : K (L (176 + 81 * r + k)) σ) : q_L_roadPlace r k K σ := by
  unfold q_L_roadPlace
  rw [hc.1, show 175 + r * 81 + 1 + k = 176 + 81 * r + k by omega]
  exact ⟨by omega, h⟩
theorem t_L_roadOffset (hc : CC L σ) (hr : 0 ≤ r ∧ r < 4) (hk : 0 ≤ k ∧ k < 40) (h : K (L (216 + 81 * r + k)) σ) : q_L_roadOffset r k K σ := by
  unfold q_L_roadOffset
  rw [hc.1, show 175 + r * 81 + 1 + 40 + k = 216 + 81 * r + k by omega]
  exact ⟨by omega, h⟩
theorem t_L_headingTo (hc : CC L σ) (hL : GW L) (hp : inP L p) (hg : 0 ≤ g ∧ g < 8) (e : bs L p g = q) (hq : q ≠ -1) (h : K g σ) : q_L_headingTo p q K σ := by
  have hb := hp.b hL
  unfold q_L_headingTo
  refine ⟨fun y => 0 ≤ y ∧ y ≤ g, fun y => (8 - y).toNat, ⟨by decide, hg.1⟩, ?_⟩
  rintro y ⟨y0, yg⟩ -
  refine ⟨fun c => ?_, fun c => ⟨by omega, fun d => ?_, fun d => ?_⟩⟩
  · rw [show y = g by omega]
    exact h
  · rw [hc.2 p y hp y0 (by omega), ← e] at d
    rw [bs_inj y0 (by omega) hg.1 hg.2 d (by rw [d, e]; exact hq)]
    exact h
  · rw [hc.2 p y hp y0 (by omega)] at d
    have : y ≠ g := fun x => d (by rw [x]; exact e)
    exact ⟨⟨by omega, by omega⟩, zRi (by omega) (by omega), by dsimp only; omega⟩
theorem t_L_isEdge (hc : CC L σ) (hL : GW L) (hp : inP L p) (hT : (∃ g, 0 ≤ g ∧ g < 8 ∧ bs L p g = -1) → K 1 σ) (hF : (∀ g, 0 ≤ g → g < 8 → bs L p g ≠ -1) → K 0 σ) : q_L_isEdge p K σ := by
  unfold q_L_isEdge
  refine ⟨fun y s => s = σ ∧ 0 ≤ y ∧ y ≤ 8 ∧ ∀ g, 0 ≤ g → g < y → bs L p g ≠ -1, fun y _ => (8 - y).toNat, ⟨rfl, by decide, by decide, fun g a b => by omega⟩, ?_⟩
  rintro y s ⟨rfl, y0, y8, hI⟩ -
  refine ⟨fun c => hF (fun g a b => hI g a (by omega)), fun c => t_L_besideOf hc hL hp ⟨y0, c⟩ ⟨fun e => ?_, fun e => hT ⟨y, y0, c, e⟩⟩⟩
  refine ⟨⟨rfl, by omega, by omega, fun g a b => ?_⟩, zRi (by omega) (by omega), by dsimp only; omega⟩
  by_cases eg : g = y
  · rw [eg]
    exact e
  · exact hI g a (by omega)
end TC
theorem zSV_3 {g : Int} (h0 : 0 ≤ g) (h1 : g < 8) : zSV 3 g = dR g := by
  rcases g8 h0 h1 with e | e | e | e | e | e | e | e <;> subst e <;> decide
theorem zSV_4 {g : Int} (h0 : 0 ≤ g) (h1 : g < 8) : zSV 4 g = dC g := by
  rcases g8 h0 h1 with e | e | e | e | e | e | e | e <;> subst e <;> decide
/-- a bit for each k below n of which P holds -/
noncomputable def bts (P : Int → Prop) : Nat → Int
  | 0 => 0
  | n + 1 => cif (P n) (zOr (bts P n) (zShl 1 n)) (zOr (bts P n) 0)
theorem bts_s (P : Int → Prop) {y : Int} (h : 0 ≤ y) : bts P (y + 1).toNat = cif (P y) (zOr (bts P y.toNat) (zShl 1 y)) (zOr (bts P y.toNat) 0) := by
  have e : ((y.toNat : Nat) : Int) = y := Int.toNat_of_nonneg h
  rw [show (y + 1).toNat = y.toNat + 1 by omega, show bts P (y.toNat + 1) = cif (P (y.toNat : Int)) (zOr (bts P y.toNat) (zShl 1 (y.toNat : Int))) (zOr (bts P y.toNat) 0) from rfl, e]
theorem t_L_stepBits {K : Int → zS → Prop} {σ : zS} {L : Int → Int} {p : Int} (hc : CC L σ) (hL : GW L) (hp : inP L p) (h : K (bts (Sty L (-1) (-1) p) 8) σ) : q_L_stepBits p K σ := by
  unfold q_L_stepBits
  refine ⟨fun x y s => s = σ ∧ 0 ≤ y ∧ y ≤ 8 ∧ x = bts (Sty L (-1) (-1) p) y.toNat, fun _ y _ => (8 - y).toNat, ⟨rfl, by decide, by decide, rfl⟩, ?_⟩
  rintro x y s ⟨rfl, y0, y8, hI⟩ - -
  refine ⟨fun c => ?_, fun c => t_L_canStep hc hL hp ⟨y0, c⟩ (fun st => n1a (fun x8 e8 => ?_)) (fun st => n0a (fun x8 e8 => ?_))⟩
  · rw [show y = 8 by omega] at hI
    rw [hI]
    exact h
  · refine ⟨⟨rfl, by omega, by omega, ?_⟩, zRi (by omega) (by omega), by dsimp only; omega⟩
    rw [bts_s _ y0, e8, hI, cif_t st]
  · refine ⟨⟨rfl, by omega, by omega, ?_⟩, zRi (by omega) (by omega), by dsimp only; omega⟩
    rw [bts_s _ y0, e8, hI, cif_f st]
