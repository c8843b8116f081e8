/-! ===== what a step costs, by kind ===== -/
/-- road r has a step between a and b ahead of its place n -/
def HSt (L : Int → Int) (r n a b : Int) : Prop := ∃ k, 0 ≤ k ∧ k < n ∧ ((L (176 + 81 * r + k) = a ∧ L (176 + 81 * r + (k + 1)) = b) ∨ (L (176 + 81 * r + k) = b ∧ L (176 + 81 * r + (k + 1)) = a))
def RB (L : Int → Int) : Prop := ∀ r, 0 ≤ r → r < 4 → 0 ≤ L (175 + 81 * r) ∧ L (175 + 81 * r) ≤ 40
def Usd (L : Int → Int) (p q : Int) : Prop := ∃ r, 0 ≤ r ∧ r < 4 ∧ HSt L r (L (175 + 81 * r) - 1) p q
noncomputable def kst (L C : Int → Int) (kind p g : Int) : Int := if kind = 0 then cst L p g else if kind = 1 then lng g else if kind = 2 then clb L p (bs L p g) else if kind = 3 then 1 else if kind = 4 then cif (Usd L p (bs L p g)) (cst L p g / 2) (cst L p g) else cst L p g + C (bs L p g)
def kbn (L : Int → Int) (kind g h : Int) : Int := if kind = 0 ∨ 4 ≤ kind then bcs L g h else 0
def CB (L C : Int → Int) : Prop := ∀ p, inP L p → 0 ≤ C p ∧ C p ≤ 81
theorem kst_b {L C : Int → Int} (hL : GW L) (hC : CB L C) {kind p g : Int} (hp : inP L p) (h : bs L p g ≠ -1) : 0 ≤ kst L C kind p g ∧ kst L C kind p g ≤ 986 := by
  have h1 := cst_b hL hp h
  have h2 := clb_b hL hp (bs_in h)
  have h3 := hC _ (bs_in h)
  unfold kst
  split
  · omega
  · split
    · rcases lng_or g with e | e <;> omega
    · split
      · omega
      · split
        · omega
        · split
          · by_cases c : Usd L p (bs L p g)
            · rw [cif_t c]; omega
            · rw [cif_f c]; omega
          · omega
theorem kbn_b {L : Int → Int} (hL : GW L) {kind g h : Int} (h0 : 0 ≤ g) (h1 : g < 8) (h2 : 0 ≤ h) (h3 : h < 8) : 0 ≤ kbn L kind g h ∧ kbn L kind g h ≤ 99 := by
  have := bcs_b hL h0 h1 h2 h3
  unfold kbn
  split <;> omega
section TK
variable {K : Int → zS → Prop} {σ : zS} {L C : Int → Int} {A B p q g h r k kind a b n : Int}
theorem t_M_hasStep (hm : MM L A B σ) (hr : 0 ≤ r ∧ r < 4) (hn : n ≤ 79) (hT : HSt L r n a b → K 1 σ) (hF : ¬ HSt L r n a b → K 0 σ) : q_M_hasStep r n a b K σ := by
  unfold q_M_hasStep
  refine ⟨fun y s => s = σ ∧ 0 ≤ y ∧ ∀ k, 0 ≤ k → k < y → ¬ ((L (176 + 81 * r + k) = a ∧ L (176 + 81 * r + (k + 1)) = b) ∨ (L (176 + 81 * r + k) = b ∧ L (176 + 81 * r + (k + 1)) = a)), fun y _ => (n - y).toNat, ⟨rfl, by decide, fun k a b => by omega⟩, ?_⟩
  rintro y s ⟨rfl, y0, hI⟩ -
  refine ⟨fun c => hF ?_, fun c => t_M_placeAt hm hr (by omega) ⟨zRi (by omega) (by omega), t_M_placeAt hm hr (by omega) ?_⟩⟩
  · rintro ⟨k, k0, k1, hk⟩
    exact hI k k0 (by omega) hk
  have nxt : ¬ ((L (176 + 81 * r + y) = a ∧ L (176 + 81 * r + (y + 1)) = b) ∨ (L (176 + 81 * r + y) = b ∧ L (176 + 81 * r + (y + 1)) = a)) → (s = s ∧ 0 ≤ y + 1 ∧ ∀ k, 0 ≤ k → k < y + 1 → ¬ ((L (176 + 81 * r + k) = a ∧ L (176 + 81 * r + (k + 1)) = b) ∨ (L (176 + 81 * r + k) = b ∧ L (176 + 81 * r + (k + 1)) = a))) ∧ (n - (y + 1)).toNat < (n - y).toNat := by
    intro hn
    refine ⟨⟨rfl, by omega, fun k k0 k1 => ?_⟩, by omega⟩
    by_cases e : k = y
    · rw [e]; exact hn
    · exact hI k k0 (by omega)
  refine ⟨¬ (L (176 + 81 * r + y) = a ∧ L (176 + 81 * r + (y + 1)) = b), fun j => ⟨fun d => nxt (fun x => x.elim j (fun z => d z.1)), fun d => ⟨fun f => nxt (fun x => x.elim j (fun z => f z.2)), fun f => hT ⟨y, y0, c, Or.inr ⟨d, f⟩⟩⟩⟩, fun d x => d x.1, fun d => ⟨fun f => hT ⟨y, y0, c, Or.inl ⟨d, f⟩⟩, fun f x => f x.2⟩⟩
theorem t_M_isUsed (hm : MM L A B σ) (hR : RB L) (hT : Usd L p q → K 1 σ) (hF : ¬ Usd L p q → K 0 σ) : q_M_isUsed p q K σ := by
  unfold q_M_isUsed
  refine ⟨fun y s => s = σ ∧ 0 ≤ y ∧ y ≤ 4 ∧ ∀ r, 0 ≤ r → r < y → ¬ HSt L r (L (175 + 81 * r) - 1) p q, fun y _ => (4 - y).toNat, ⟨rfl, by decide, by decide, fun r a b => by omega⟩, ?_⟩
  rintro y s ⟨rfl, y0, y4, hI⟩ -
  refine ⟨fun c => hF ?_, fun c => t_M_many hm ⟨y0, c⟩ ?_⟩
  · rintro ⟨r, r0, r1, hr⟩
    exact hI r r0 (by omega) hr
  have hb := hR y y0 c
  refine ⟨zRi (by omega) (by omega), t_M_hasStep hm ⟨y0, c⟩ (by omega) (fun t => n1a (hT ⟨y, y0, c, t⟩)) (fun t => n0a ⟨⟨rfl, by omega, by omega, fun r r0 r1 => ?_⟩, zRi (by omega) (by omega), by dsimp only; omega⟩)⟩
  by_cases e : r = y
  · rw [e]; exact t
  · exact hI r r0 (by omega)
theorem t_M_stepOf_b (hm : MM L A B σ) (hL : GW L) (hp : inP L p) (hg : 0 ≤ g ∧ g < 8) (hb : bs L p g ≠ -1) (h : K (cst L p g) σ) : q_M_stepOf_b p g 0 K σ := by
  have h1 := cst_b hL hp hb
  unfold q_M_stepOf_b
  refine t_M_beside hm hL hp hg ⟨fun _ => t_M_longOf hg (t_M_differ hm hL hp (bs_in hb) ?_), fun c => absurd c (by decide), fun c => absurd c (by decide), fun c => absurd c (by decide), fun c => absurd c (by decide), fun c => absurd rfl c.1⟩
  rw [hm.1]
  exact ⟨zRb h1.1 h1.2 (by decide) (by decide), h⟩
theorem t_M_stepOf (hm : MM L A B σ) (hL : GW L) (hR : RB L) (hCB : CB L C) (hC : kind = 5 → ∀ p, inP L p → σ 62 p = C p) (hk : 0 ≤ kind ∧ kind ≤ 5) (hp : inP L p) (hg : 0 ≤ g ∧ g < 8) (hb : bs L p g ≠ -1) (h : K (kst L C kind p g) σ) : q_M_stepOf p g kind K σ := by
  have h1 := cst_b hL hp hb
  have hq := bs_in hb
  have hq2 := hq.b hL
  unfold q_M_stepOf
  unfold kst at h
  refine t_M_beside hm hL hp hg ⟨fun c => t_M_longOf hg (t_M_differ hm hL hp hq ?_), fun c => t_M_longOf hg ?_, fun c => t_M_climb hm hL hp hq ?_, fun c => ?_, fun c => t_M_stepOf_b hm hL hp hg hb (t_M_isUsed hm hR (fun u => n1a ?_) (fun u => n0a ?_)), fun c => t_M_stepOf_b hm hL hp hg hb ?_⟩
  · rw [if_pos c] at h
    rw [hm.1]
    exact ⟨zRb h1.1 h1.2 (by decide) (by decide), h⟩
  · rw [if_neg (by omega), if_pos c] at h
    exact h
  · rw [if_neg (by omega), if_neg (by omega), if_pos c] at h
    exact h
  · rw [if_neg (by omega), if_neg (by omega), if_neg (by omega), if_pos c] at h
    exact h
  · rw [if_neg (by omega), if_neg (by omega), if_neg (by omega), if_neg (by omega), if_pos c, cif_t u] at h
    rw [Int.tdiv_eq_ediv_of_nonneg (by omega)]
    exact ⟨zRi (by omega) (by omega), h⟩
  · rw [if_neg (by omega), if_neg (by omega), if_neg (by omega), if_neg (by omega), if_pos c, cif_f u] at h
    rw [Int.tdiv_eq_ediv_of_nonneg (by omega), Int.ediv_one]
    exact ⟨zRi (by omega) (by omega), h⟩
  · rw [if_neg (by omega), if_neg (by omega), if_neg (by omega), if_neg (by omega), if_neg (by omega)] at h
    rw [hC (by omega) _ hq]
    have := hCB _ hq
    exact ⟨hq2, zRi (by omega) (by omega), h⟩
theorem t_M_bendOf (hm : MM L A B σ) (hL : GW L) (hg : 0 ≤ g ∧ g < 8) (hh : 0 ≤ h ∧ h < 8) (hK : K (kbn L kind g h) σ) : q_M_bendOf g h kind K σ := by
  unfold q_M_bendOf
  unfold kbn at hK
  refine ⟨fun c => t_M_bendCost hm hL hg hh ?_, fun c => ⟨fun d => ?_, fun d => t_M_bendCost hm hL hg hh ?_⟩⟩
  · rw [if_pos (Or.inl c)] at hK
    exact hK
  · rw [if_neg (by omega)] at hK
    exact hK
  · rw [if_pos (Or.inr d)] at hK
    exact hK
/-- road r is none, or a way from place to place beside -/
def RW (L : Int → Int) (r : Int) : Prop := L (175 + 81 * r) = 0 ∨ (2 ≤ L (175 + 81 * r) ∧ L (175 + 81 * r) ≤ 40 ∧ (∀ k, 0 ≤ k → k < L (175 + 81 * r) → inP L (L (176 + 81 * r + k)) ∧ -3 ≤ L (216 + 81 * r + k) ∧ L (216 + 81 * r + k) ≤ 3) ∧ ∀ k, 0 ≤ k → k + 1 < L (175 + 81 * r) → ∃ g, 0 ≤ g ∧ g < 8 ∧ bs L (L (176 + 81 * r + k)) g = L (176 + 81 * r + (k + 1)))
def RWs (L : Int → Int) : Prop := ∀ r, 0 ≤ r → r < 4 → RW L r
theorem RWs.rb {L : Int → Int} (h : RWs L) : RB L := by
  intro r r0 r1
  rcases h r r0 r1 with e | e
  · omega
  · omega
/-- the heading of a road's step -/
def rhd (L : Int → Int) (r k : Int) : Int := hdg (L 0) (L (176 + 81 * r + k)) (L (176 + 81 * r + (k + 1)))
theorem RW.hd {L : Int → Int} (h : RW L r) (k0 : 0 ≤ k) (k1 : k + 1 < L (175 + 81 * r)) : (0 ≤ rhd L r k ∧ rhd L r k < 8) ∧ bs L (L (176 + 81 * r + k)) (rhd L r k) = L (176 + 81 * r + (k + 1)) ∧ inP L (L (176 + 81 * r + k)) ∧ inP L (L (176 + 81 * r + (k + 1))) := by
  rcases h with e | ⟨e1, e2, e3, e4⟩
  · omega
  · obtain ⟨g, g0, g1, hg⟩ := e4 k k0 k1
    have a1 := (e3 k k0 (by omega)).1
    have a2 := (e3 (k + 1) (by omega) k1).1
    have a3 : bs L (L (176 + 81 * r + k)) g ≠ -1 := by
      rw [hg]
      have := a2.1
      omega
    have a4 : hdg (L 0) (L (176 + 81 * r + k)) (bs L (L (176 + 81 * r + k)) g) = g := hdg_eq g0 g1 a3
    rw [hg] at a4
    unfold rhd
    rw [a4]
    exact ⟨⟨g0, g1⟩, hg, a1, a2⟩
theorem inP.ne {p : Int} (h : inP L p) : p ≠ -1 := by have := h.1; omega
theorem t_L_roadHeading (hc : CC L σ) (hL : GW L) (hr : 0 ≤ r ∧ r < 4) (hw : RW L r) (k0 : 0 ≤ k) (k1 : k + 1 < L (175 + 81 * r)) (hk : k < 79) (h : K (rhd L r k) σ) : q_L_roadHeading r k K σ := by
  have hd := hw.hd k0 k1
  unfold q_L_roadHeading
  exact t_L_roadPlace hc hr (by omega) ⟨zRi (by omega) (by omega), t_L_roadPlace hc hr (by omega) (t_L_headingTo hc hL hd.2.2.1 hd.1 hd.2.1 hd.2.2.2.ne h)⟩
theorem t_M_stepHeading (hm : MM L A B σ) (hL : GW L) (hr : 0 ≤ r ∧ r < 4) (hw : RW L r) (k0 : 0 ≤ k) (k1 : k + 1 < L (175 + 81 * r)) (hk : k < 79) (h : K (rhd L r k) σ) : q_M_stepHeading r k K σ := by
  have hd := hw.hd k0 k1
  unfold q_M_stepHeading
  exact t_M_placeAt hm hr (by omega) ⟨zRi (by omega) (by omega), t_M_placeAt hm hr (by omega) (t_M_heading hm hL hd.2.2.1 hd.1 hd.2.1 hd.2.2.2.ne h)⟩
end TK
