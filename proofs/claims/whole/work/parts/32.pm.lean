/-! ===== the reference's methods that only look ===== -/
/-- the reference's land is L, its tables are as they were made, the step between A and B is barred -/
def MM (L : Int → Int) (A B : Int) (σ : zS) : Prop := σ 42 = L ∧ (∀ g, 0 ≤ g → g < 8 → σ 47 g = dR g ∧ σ 48 g = dC g) ∧ σ 41 28 = A ∧ σ 41 29 = B
theorem MM_U {L : Int → Int} {A B : Int} {σ : zS} {o : Nat} {k v : Int} (h : MM L A B σ) (ho : o ≠ 42 ∧ o ≠ 47 ∧ o ≠ 48 ∧ o ≠ 41) : MM L A B (zU σ o k v) := by
  unfold MM
  rw [zU_row (Ne.symm ho.1), zU_row (Ne.symm ho.2.1), zU_row (Ne.symm ho.2.2.1), zU_row (Ne.symm ho.2.2.2)]
  exact h
theorem MM_F {L : Int → Int} {A B : Int} {σ : zS} {k v : Int} (h : MM L A B σ) (ho : (28 : Int) ≠ k ∧ (29 : Int) ≠ k) : MM L A B (zU σ 41 k v) := by
  unfold MM
  rw [zU_row (by decide), zU_row (by decide), zU_row (by decide), zU_k ho.1, zU_k ho.2]
  exact h
theorem MM_Q {S : List Nat} {L : Int → Int} {A B : Int} {σ τ : zS} (h : MM L A B σ) (hq : zQ S σ τ) (h1 : 42 ∉ S ∧ 47 ∉ S ∧ 48 ∉ S ∧ 41 ∉ S) : MM L A B τ := by
  unfold MM
  rw [hq 42 h1.1, hq 47 h1.2.1, hq 48 h1.2.2.1, hq 41 h1.2.2.2]
  exact h
section TM
variable {K : Int → zS → Prop} {σ : zS} {L : Int → Int} {A B p q g h r k : Int}
theorem t_M_isIn {v low high : Int} (hT : low ≤ v → v ≤ high → K 1 σ) (hF : ¬ (low ≤ v ∧ v ≤ high) → K 0 σ) : q_M_isIn v low high K σ := by
  unfold q_M_isIn
  exact ⟨fun c => hF (by omega), fun c => ⟨fun d => hF (by omega), fun d => hT c d⟩⟩
theorem t_M_apart {a b : Int} (hr : zR (if a < b then b - a else a - b)) (h : K (if a < b then b - a else a - b) σ) : q_M_apart a b K σ := by
  unfold q_M_apart
  refine ⟨fun c => ?_, fun c => ?_⟩
  · rw [if_neg (by omega)] at h hr
    exact ⟨hr, h⟩
  · rw [if_pos c] at h hr
    exact ⟨hr, h⟩
theorem t_M_lesser {a b : Int} (h : K (if a < b then a else b) σ) : q_M_lesser a b K σ := by
  unfold q_M_lesser
  refine ⟨fun c => ?_, fun c => ?_⟩
  · rw [if_neg (by omega)] at h
    exact h
  · rw [if_pos c] at h
    exact h
theorem t_M_places (hm : MM L A B σ) (hn : 0 ≤ L 0 * L 1 ∧ L 0 * L 1 ≤ 81) (h : K (L 0 * L 1) σ) : q_M_places K σ := by
  unfold q_M_places
  rw [hm.1]
  exact ⟨zRi (by omega) (by omega), h⟩
theorem t_M_isPlace (hm : MM L A B σ) (hn : 0 ≤ L 0 * L 1 ∧ L 0 * L 1 ≤ 81) (hT : inP L p → K 1 σ) (hF : ¬ inP L p → K 0 σ) : q_M_isPlace p K σ := by
  unfold q_M_isPlace
  refine t_M_places hm hn ⟨zRi (by omega) (by omega), t_M_isIn (fun a b => hT ⟨a, by omega⟩) (fun a => hF (fun c => a ⟨c.1, by have := c.2; omega⟩))⟩
theorem t_M_isWet (hm : MM L A B σ) (hp : -1 ≤ p ∧ p < 81) (hT : L (94 + p) = 1 → K 1 σ) (hF : L (94 + p) ≠ 1 → K 0 σ) : q_M_isWet p K σ := by
  unfold q_M_isWet
  rw [hm.1]
  exact ⟨by omega, hF, hT⟩
theorem t_M_beside (hm : MM L A B σ) (hL : GW L) (hp : inP L p) (hg : 0 ≤ g ∧ g < 8) (h : K (bs L p g) σ) : q_M_beside p g K σ := by
  obtain ⟨w1, w2, d1, d2⟩ := hL.1
  have hb := hp.b hL
  have ht := hm.2.1 g hg.1 hg.2
  have hd := dRC_b g
  have hrc := gr_rc hL.W hp.1 hp.2
  unfold q_M_beside
  rw [hm.1, ht.1, ht.2, Int.tdiv_eq_ediv_of_nonneg hp.1, Int.tmod_eq_emod_of_nonneg hp.1]
  refine ⟨by omega, by omega, hg, fun x6 e6 => ⟨by omega, fun x10 e10 => ⟨zRi (by omega) (by omega), zRi (by omega) (by omega), ?_⟩⟩⟩
  have fls : ¬ (0 ≤ x6 ∧ x6 < L 1 ∧ 0 ≤ x10 ∧ x10 < L 0) → K (-1) σ := fun c => by
    have e : bs L p g = -1 := by
      show bes (L 0) (L 1) p g = -1
      unfold bes
      rw [← e6, ← e10]
      exact if_neg c
    rw [e] at h
    exact h
  refine t_M_isIn (fun a b => n1a ⟨zRi (by omega) (by omega), zRi (by rw [hm.1]; omega) (by rw [hm.1]; omega), ?_⟩) (fun a => n0a (fls (by omega)))
  rw [hm.1]
  refine t_M_isIn (fun c d => n1a ?_) (fun c => n0a (fls (by omega)))
  rw [hm.1]
  have e : bs L p g = x6 * L 0 + x10 := by
    show bes (L 0) (L 1) p g = _
    exact bes_mk e6.symm e10.symm a (by omega) c (by omega)
  rw [e] at h
  have := gr_in (W := L 0) (D := L 1) a (by omega) c (by omega)
  have := hL.n
  exact ⟨zRi (by omega) (by omega), h⟩
theorem t_M_longOf (hg : 0 ≤ g ∧ g < 8) (h : K (lng g) σ) : q_M_longOf g K σ := by
  unfold q_M_longOf
  rw [Int.tmod_eq_emod_of_nonneg hg.1]
  refine ⟨zRi (by omega) (by omega), fun c => ?_, fun c => ?_⟩
  · unfold lng at h
    rw [if_neg c] at h
    exact h
  · unfold lng at h
    rw [if_pos c] at h
    exact h
theorem t_M_differ (hm : MM L A B σ) (hL : GW L) (hp : inP L p) (hq : inP L q) (h : K (dif L p q) σ) : q_M_differ p q K σ := by
  have h1 := hp.b hL
  have h2 := hq.b hL
  have h3 := dif_b hL hp hq
  unfold q_M_differ
  rw [hm.1]
  exact ⟨by omega, by omega, t_M_apart (zRi (by unfold dif at h3; omega) (by unfold dif at h3; omega)) h⟩
theorem t_M_isSteep (hm : MM L A B σ) (hL : GW L) (hp : inP L p) (hg : 0 ≤ g ∧ g < 8) (hb : bs L p g ≠ -1) (hT : Steep L p g → K 1 σ) (hF : ¬ Steep L p g → K 0 σ) : q_M_isSteep p g K σ := by
  have h3 := dif_b hL hp (bs_in hb)
  have h4 := hL.2.1
  unfold q_M_isSteep
  refine t_M_beside hm hL hp hg (t_M_differ hm hL hp (bs_in hb) (t_M_longOf hg ?_))
  rw [hm.1]
  have h5 : 0 ≤ L 2 * lng g ∧ L 2 * lng g ≤ 1386 := by rcases lng_or g with e | e <;> rw [e] <;> omega
  exact ⟨zRi (by omega) (by omega), zRi (by omega) (by omega), fun c => hF (by unfold Steep; omega), fun c => hT c⟩
theorem t_M_isOpen (hm : MM L A B σ) (hL : GW L) (hp : inP L p) (hg : 0 ≤ g ∧ g < 8) (hT : Opn L A B p g → K 1 σ) (hF : ¬ Opn L A B p g → K 0 σ) : q_M_isOpen p g K σ := by
  have hb := hp.b hL
  unfold q_M_isOpen
  refine t_M_beside hm hL hp hg ⟨fun c => hF (fun o => o.1 c), fun c => ?_⟩
  have hq := (bs_in c).b hL
  refine t_M_isWet hm (by omega) (fun w => n1b (hF (fun o => o.2.1 w))) (fun w => n0b ?_)
  refine t_M_isWet hm (by omega) (fun w2 => n1b (hF (fun o => o.2.2.1 w2))) (fun w2 => n0b ?_)
  rw [hm.2.2.1, hm.2.2.2]
  refine ⟨¬ (p = A ∧ bs L p g = B), fun j1 => ⟨¬ (p = B ∧ bs L p g = A), fun j2 => ?_, ?_⟩, ?_⟩
  · rw [Int.tmod_eq_emod_of_nonneg hg.1]
    refine ⟨zRi (by omega) (by omega), fun o => hT ⟨c, w, w2, j1, j2, Or.inl o⟩, fun o => ⟨zRi (by omega) (by omega), ?_⟩⟩
    have s := bes_side hL.W hp.1 hp.2 hg.1 hg.2 o c
    have s1 := (bs_in s.1).b hL
    have s2 := (bs_in s.2.1).b hL
    refine t_M_beside hm hL hp (by omega) (t_M_isWet hm (by omega) (fun w3 => n1a ?_) (fun w3 => n0a (hT ⟨c, w, w2, j1, j2, Or.inr (Or.inl w3)⟩)))
    rw [Int.tmod_eq_emod_of_nonneg (by omega)]
    refine ⟨zRi (by omega) (by omega), zRi (by omega) (by omega), t_M_beside hm hL hp (by omega) (t_M_isWet hm (by omega) (fun w4 => n1b (hF (fun x => ?_))) (fun w4 => n0b (hT ⟨c, w, w2, j1, j2, Or.inr (Or.inr w4)⟩)))⟩
    rcases x.2.2.2.2.2 with y | y | y
    · exact o y
    · exact y w3
    · exact y w4
  · exact ⟨fun a b => a b.1, fun a => ⟨fun b b2 => b b2.2, fun b => hF (fun x => x.2.2.2.2.1 ⟨a, b⟩)⟩⟩
  · exact ⟨fun a b => a b.1, fun a => ⟨fun b => hF (fun x => x.2.2.2.1 ⟨a, b⟩), fun b b2 => b b2.2⟩⟩
theorem t_M_canStep (hm : MM L A B σ) (hL : GW L) (hp : inP L p) (hg : 0 ≤ g ∧ g < 8) (hT : Sty L A B p g → K 1 σ) (hF : ¬ Sty L A B p g → K 0 σ) : q_M_canStep p g K σ := by
  unfold q_M_canStep
  refine t_M_isOpen hm hL hp hg (fun o => n1a (t_M_isSteep hm hL hp hg o.1 (fun s => n1b (hF (fun x => x.2 s))) (fun s => n0b (hT ⟨o, s⟩)))) (fun o => n0a (hF (fun x => o x.1)))
theorem t_M_eighths (hg : 0 ≤ g ∧ g < 8) (hh : 0 ≤ h ∧ h < 8) (hK : K (eig g h) σ) : q_M_eighths g h K σ := by
  unfold q_M_eighths
  unfold eig at hK
  refine t_M_apart (by split <;> exact zRi (by omega) (by omega)) ⟨fun c => ?_, fun c => ⟨by split <;> exact zRi (by omega) (by omega), ?_⟩⟩
  · rw [if_neg (by omega)] at hK
    exact hK
  · rw [if_pos c] at hK
    exact hK
theorem t_M_isFlat (hm : MM L A B σ) (hL : GW L) (hp : inP L p) (hT : Flt L p → K 1 σ) (hF : ¬ Flt L p → K 0 σ) : q_M_isFlat p K σ := by
  unfold q_M_isFlat
  refine ⟨fun y s => s = σ ∧ 0 ≤ y ∧ y ≤ 8 ∧ ∀ g, 0 ≤ g → g < y → bs L p g ≠ -1 → dif L p (bs L p g) ≤ L 4, fun y _ => (8 - y).toNat, ⟨rfl, by decide, by decide, fun g a b => by omega⟩, ?_⟩
  rintro y s ⟨rfl, y0, y8, hI⟩ -
  refine ⟨fun c => hT (fun g a b => hI g a (by omega)), fun c => t_M_beside hm hL hp ⟨y0, c⟩ ⟨fun e => ?_, fun e => ?_⟩⟩
  · refine ⟨⟨rfl, by omega, by omega, fun g a b nb => ?_⟩, zRi (by omega) (by omega), by dsimp only; omega⟩
    by_cases eg : g = y
    · subst eg
      exact absurd e nb
    · exact hI g a (by omega) nb
  · refine t_M_differ hm hL hp (bs_in e) ?_
    rw [hm.1]
    refine ⟨fun d => ⟨⟨rfl, by omega, by omega, fun g a b nb => ?_⟩, zRi (by omega) (by omega), by dsimp only; omega⟩, fun d => hF (fun f => ?_)⟩
    · by_cases eg : g = y
      · subst eg
        exact d
      · exact hI g a (by omega) nb
    · have := f y y0 c e
      omega
theorem t_M_canBend (hm : MM L A B σ) (hL : GW L) (hp : inP L p) (hg : 0 ≤ g ∧ g < 8) (hh : 0 ≤ h ∧ h < 8) (hT : Bnd L p g h → K 1 σ) (hF : ¬ Bnd L p g h → K 0 σ) : q_M_canBend p g h K σ := by
  unfold q_M_canBend
  refine t_M_eighths hg hh ?_
  rw [hm.1]
  exact ⟨fun c => hT (Or.inl c), fun c => t_M_isFlat hm hL hp (fun f => n1a (hT (Or.inr f))) (fun f => n0a (hF (fun b => b.elim (by omega) f)))⟩
theorem t_M_bendCost (hm : MM L A B σ) (hL : GW L) (hg : 0 ≤ g ∧ g < 8) (hh : 0 ≤ h ∧ h < 8) (hK : K (bcs L g h) σ) : q_M_bendCost g h K σ := by
  have hb := bcs_b hL hg.1 hg.2 hh.1 hh.2
  unfold q_M_bendCost
  refine t_M_eighths hg hh ?_
  rw [hm.1]
  unfold bcs at hK hb
  refine ⟨fun c => ?_, fun c => t_M_eighths hg hh ?_⟩
  · rw [if_neg (by omega)] at hK
    exact hK
  · rw [if_pos c] at hK hb
    exact ⟨zRi (by omega) (by omega), hK⟩
theorem t_M_climb (hm : MM L A B σ) (hL : GW L) (hp : inP L p) (hq : inP L q) (h : K (clb L p q) σ) : q_M_climb p q K σ := by
  have h1 := hp.b hL
  have h2 := hq.b hL
  have h3 := clb_b hL hp hq
  unfold q_M_climb
  rw [hm.1]
  unfold clb at h h3
  refine ⟨by omega, by omega, fun c => ?_, fun c => ?_⟩
  · rw [if_neg (by omega)] at h
    exact h
  · rw [if_pos c] at h h3
    exact ⟨zRi (by omega) (by omega), h⟩
theorem t_M_many (hm : MM L A B σ) (hr : 0 ≤ r ∧ r < 4) (h : K (L (175 + 81 * r)) σ) : q_M_many r K σ := by
  unfold q_M_many
  rw [hm.1]
  exact ⟨by omega, h⟩
theorem t_M_placeAt (hm : MM L A B σ) (hr : 0 ≤ r ∧ r < 4) (hk : 0 ≤ k ∧ k < 80) (h : K (L (176 + 81 * r + k)) σ) : q_M_placeAt r k K σ := by
  unfold q_M_placeAt
  rw [hm.1, show 175 + 81 * r + 1 + k = 176 + 81 * r + k by omega]
  exact ⟨by omega, h⟩
theorem t_M_offsetAt (hm : MM L A B σ) (hr : 0 ≤ r ∧ r < 4) (hk : 0 ≤ k ∧ k < 40) (h : K (L (216 + 81 * r + k)) σ) : q_M_offsetAt r k K σ := by
  unfold q_M_offsetAt
  rw [hm.1, show 175 + 81 * r + 41 + k = 216 + 81 * r + k by omega]
  exact ⟨by omega, h⟩
theorem t_M_isRoad (hT : 0 ≤ r → r < 4 → K 1 σ) (hF : ¬ (0 ≤ r ∧ r < 4) → K 0 σ) : q_M_isRoad r K σ := by
  unfold q_M_isRoad
  exact t_M_isIn (fun a b => hT a (by omega)) (fun a => hF (by omega))
theorem t_M_two {a b : Int} (hm : MM L A B σ) (hn : 0 ≤ L 0 * L 1 ∧ L 0 * L 1 ≤ 81) (h0 : inP L a → inP L b → a ≠ b → K 0 σ) (h1 : ¬ (inP L a ∧ inP L b) → K 1 σ) (h2 : inP L a → inP L b → a = b → K 2 σ) : q_M_two a b K σ := by
  unfold q_M_two
  exact t_M_isPlace hm hn (fun ha => n1a (t_M_isPlace hm hn (fun hb => n1b ⟨fun e => h0 ha hb e, fun e => h2 ha hb e⟩) (fun hb => n0b (h1 (fun x => hb x.2))))) (fun ha => n0a (h1 (fun x => ha x.1)))
theorem t_M_heading (hm : MM L A B σ) (hL : GW L) (hp : inP L p) (hg : 0 ≤ g ∧ g < 8) (e : bs L p g = q) (hq : q ≠ -1) (h : K g σ) : q_M_heading p q K σ := by
  subst e
  obtain ⟨w1, w2, d1, d2⟩ := hL.1
  have hq' := bs_in hq
  have r1 := gr_rc hL.W hp.1 hp.2
  have r2 := gr_rc hL.W hq'.1 hq'.2
  have e : hdg (L 0) p (bs L p g) = g := hdg_eq hg.1 hg.2 hq
  unfold q_M_heading q_M_headingOf
  rw [hm.1, Int.tdiv_eq_ediv_of_nonneg hp.1, Int.tmod_eq_emod_of_nonneg hp.1, Int.tdiv_eq_ediv_of_nonneg hq'.1, Int.tmod_eq_emod_of_nonneg hq'.1]
  unfold hdg at e
  refine ⟨by omega, by omega, by omega, by omega, by omega, by omega, zRi (by omega) (by omega), zRi (by omega) (by omega), fun c => ⟨fun d => ?_, fun d => ⟨fun f => ?_, fun f => ?_⟩⟩, fun c => ⟨fun d => ?_, fun d => ?_⟩⟩
  · rw [if_neg (by omega), if_neg d] at e
    rw [e]
    exact ⟨zRi (by omega) (by omega), h⟩
  · rw [if_neg (by omega), if_pos d, if_neg (by omega)] at e
    rw [e]
    exact h
  · rw [if_neg (by omega), if_pos d, if_pos f] at e
    rw [e]
    exact h
  · rw [if_pos c, if_neg (by omega)] at e
    rw [e]
    exact h
  · rw [if_pos c, if_pos d] at e
    rw [e]
    exact h
end TM
