/-! ===== spilling ===== -/
def Edg (L : Int → Int) (p : Int) : Prop := ∃ g, 0 ≤ g ∧ g < 8 ∧ bs L p g = -1
theorem t_M_isEdge {K : Int → zS → Prop} {σ : zS} {L : Int → Int} {A B p : Int} (hm : MM L A B σ) (hL : GW L) (hp : inP L p) (hT : Edg L p → K 1 σ) (hF : ¬ Edg L p → K 0 σ) : q_M_isEdge p K σ := by
  obtain ⟨w1, w2, d1, d2⟩ := hL.1
  have hrc := gr_rc hL.W hp.1 hp.2
  have he := bes_edge hL.W hp.1 hp.2
  unfold q_M_isEdge
  rw [hm.1, Int.tdiv_eq_ediv_of_nonneg hp.1, Int.tmod_eq_emod_of_nonneg hp.1]
  refine ⟨by omega, by omega, fun x4 e4 => ⟨by omega, fun x7 e7 => ⟨zRi (by omega) (by omega), fun a => hT (he.mp (Or.inl (by omega))), fun a => ⟨zRi (by omega) (by omega), fun b => hT (he.mp (Or.inr (Or.inl (by omega)))), fun b => ⟨zRi (by omega) (by omega), fun c => hT (he.mp (Or.inr (Or.inr (Or.inl (by omega))))), fun c => ⟨zRi (by omega) (by omega), fun d => hF (fun x => ?_), fun d => hT (he.mp (Or.inr (Or.inr (Or.inr (by omega)))))⟩⟩⟩⟩⟩⟩
  have := he.mpr x
  omega
/-- what holds of the spills while they are made less -/
def SPI (L d : Int → Int) : Prop :=
  (∀ p, inP L p → L (13 + p) ≤ d p ∧ d p ≤ 1000000000 ∧ (Edg L p → d p ≤ L (13 + p))) ∧
  (∀ (P : Int → Prop) (m : Int), m ≤ 99 → (∀ x, P x → inP L x ∧ ¬ Edg L x) → (∀ x g, P x → 0 ≤ g → g < 8 → bs L x g ≠ -1 → P (bs L x g) ∨ m ≤ L (13 + bs L x g)) → ∀ x, P x → m ≤ d x)
def SPF (L d : Int → Int) : Prop := SPI L d ∧ ∀ p g, inP L p → 0 ≤ g → g < 8 → bs L p g ≠ -1 → d p ≤ max (d (bs L p g)) (L (13 + p))
theorem SPI_up {L d : Int → Int} (h : SPI L d) {p g : Int} (hp : inP L p) (g0 : 0 ≤ g) (g1 : g < 8) (hb : bs L p g ≠ -1) (hl : max (d (bs L p g)) (L (13 + p)) < d p) : SPI L (up d p (max (d (bs L p g)) (L (13 + p)))) := by
  refine ⟨fun q hq => ?_, fun P m hm hP hB x hx => ?_⟩
  · have a := h.1 q hq
    by_cases e : q = p
    · subst e
      rw [up_s]
      exact ⟨by omega, by omega, fun he => by have := a.2.2 he; omega⟩
    · rw [up_o e]
      exact a
  · have a := h.2 P m hm hP hB x hx
    by_cases e : x = p
    · subst e
      rw [up_s]
      rcases hB x g hx g0 g1 hb with q | q
      · have := h.2 P m hm hP hB _ q
        omega
      · have := (h.1 _ (bs_in hb)).1
        omega
    · rw [up_o e]
      exact a
theorem t_M_sinks {K : Int → zS → Prop} {σ : zS} {L : Int → Int} {A B p : Int} (hm : MM L A B σ) (hL : GW L) (hp : inP L p) (hS : SPI L (σ 63)) (h0 : (∀ g, 0 ≤ g → g < 8 → bs L p g ≠ -1 → σ 63 p ≤ max (σ 63 (bs L p g)) (L (13 + p))) → K 0 σ) (h1 : ∀ τ, zQ [63] σ τ → SPI L (τ 63) → sgm 81 (τ 63) < sgm 81 (σ 63) → K 1 τ) : q_M_sinks p K σ := by
  have hp2 := hp.b hL
  unfold q_M_sinks
  refine ⟨fun x y s => zQ [63] σ s ∧ SPI L (s 63) ∧ 0 ≤ y ∧ y ≤ 8 ∧ ((x = 0 ∧ s = σ ∧ ∀ g, 0 ≤ g → g < y → bs L p g ≠ -1 → σ 63 p ≤ max (σ 63 (bs L p g)) (L (13 + p))) ∨ (x = 1 ∧ sgm 81 (s 63) < sgm 81 (σ 63))), fun _ y _ => (8 - y).toNat, ⟨zQ_r _ _, hS, by decide, by decide, Or.inl ⟨rfl, rfl, fun g a b => by omega⟩⟩, ?_⟩
  rintro x y s ⟨hq, hI, y0, y8, hx⟩ - -
  have hm' := MM_Q hm hq (by decide)
  refine ⟨fun c => ?_, fun c => t_M_beside hm' hL hp ⟨y0, c⟩ ⟨fun e => ?_, fun e => ?_⟩⟩
  · rcases hx with ⟨a, b, d⟩ | ⟨a, b⟩
    · subst b
      rw [a]
      exact ⟨Or.inl rfl, h0 (fun g g0 g1 => d g g0 (by omega))⟩
    · rw [a]
      exact ⟨Or.inr rfl, h1 s hq hI b⟩
  · have iq := bs_in e
    have iq2 := iq.b hL
    rw [hm'.1]
    refine ⟨iq2, by omega, fun w => w = max (s 63 (bs L p y)) (L (13 + p)), fun w ew _ => ⟨hp2, fun d s1 e1 => ?_, fun d => ?_⟩, fun d => ?_, fun d => ?_⟩
    · rw [ew] at d
      have hI' := SPI_up hI hp y0 c e d
      have b1 := hI.1 p hp
      have hs := sgm_up (N := 81) (d := s 63) hp.1 hp2.2 (by have := hI'.1 p hp; rw [up_s] at this; have := hL.2.2.1 p hp2.1 hp2.2; omega) d
      have e63 : s1 63 = up (s 63) p (max (s 63 (bs L p y)) (L (13 + p))) := by rw [e1, zU_up, ew]
      refine ⟨⟨?_, by rw [e63]; exact hI', by omega, by omega, Or.inr ⟨rfl, ?_⟩⟩, zRi (by omega) (by omega), by dsimp only; omega⟩
      · rw [e1]; exact zQ_t hq (zQ_U (by decide))
      · rw [e63]
        rcases hx with ⟨a, b, d⟩ | ⟨a, b⟩
        · rw [← b]; exact hs
        · omega
    · rw [ew] at d
      refine ⟨⟨hq, hI, by omega, by omega, ?_⟩, zRi (by omega) (by omega), by dsimp only; omega⟩
      rcases hx with ⟨a, b, f⟩ | ⟨a, b⟩
      · refine Or.inl ⟨a, b, fun g g0 g1 hb => ?_⟩
        by_cases eg : g = y
        · subst eg
          rw [← b]
          exact d
        · exact f g g0 (by omega) hb
      · exact Or.inr ⟨a, b⟩
    · show L (13 + p) = _
      omega
    · show s 63 _ = _
      omega
  · refine ⟨⟨hq, hI, by omega, by omega, ?_⟩, zRi (by omega) (by omega), by dsimp only; omega⟩
    rcases hx with ⟨a, b, f⟩ | ⟨a, b⟩
    · refine Or.inl ⟨a, b, fun g g0 g1 hb => ?_⟩
      by_cases eg : g = y
      · subst eg
        exact absurd e hb
      · exact f g g0 (by omega) hb
    · exact Or.inr ⟨a, b⟩
theorem t_M_spillOf {K : Int → zS → Prop} {σ : zS} {L : Int → Int} {A B p : Int} (hm : MM L A B σ) (hL : GW L) (hp : inP L p) (h : ∀ τ, zQ [63] σ τ → SPF L (τ 63) → K (τ 63 p) τ) : q_M_spillOf p K σ := by
  have hp2 := hp.b hL
  have hn := hL.n
  unfold q_M_spillOf
  refine ⟨fun y s => zQ [63] σ s ∧ 0 ≤ y ∧ y ≤ 81 ∧ ∀ q, inP L q → q < y → (Edg L q → s 63 q = L (13 + q)) ∧ (¬ Edg L q → s 63 q = 1000000000), fun y _ => (81 - y).toNat, ⟨zQ_r _ _, by decide, by decide, fun q a b => by have := a.1; omega⟩, ?_⟩
  rintro y s ⟨hq, y0, y81, hI⟩ -
  have hm' := MM_Q hm hq (by decide)
  have nxt : ∀ (v : Int) (s1 : zS), s1 = zU s 63 y v → y < L 0 * L 1 → ((Edg L y → v = L (13 + y)) ∧ (¬ Edg L y → v = 1000000000)) → ((zQ [63] σ s1 ∧ 0 ≤ y + 1 ∧ y + 1 ≤ 81 ∧ ∀ q, inP L q → q < y + 1 → (Edg L q → s1 63 q = L (13 + q)) ∧ (¬ Edg L q → s1 63 q = 1000000000)) ∧ zR (y + 1) ∧ (81 - (y + 1)).toNat < (81 - y).toNat) := by
    intro v s1 e1 c hv
    refine ⟨⟨by rw [e1]; exact zQ_t hq (zQ_U (by decide)), by omega, by omega, fun q iq hlt => ?_⟩, zRi (by omega) (by omega), by omega⟩
    rw [e1, zU_if]
    by_cases e : q = y
    · rw [if_pos e, e]
      exact hv
    · rw [if_neg e]
      exact hI q iq (by omega)
  refine t_M_places hm' (by omega) ⟨fun c => ?_, fun c => t_M_isEdge hm' hL ⟨y0, c⟩ (fun e => n1a ⟨by omega, by omega, fun s1 e1 => ?_⟩) (fun e => n0a ⟨by omega, fun s1 e1 => nxt _ s1 e1 c ⟨fun x => absurd x e, fun _ => rfl⟩⟩)⟩
  · have hS : SPI L (s 63) := by
      refine ⟨fun q iq => ?_, fun P m hm2 hP hB x hx => ?_⟩
      · have a := hI q iq (by have := iq.2; omega)
        have b := hL.2.2.1 q iq.1 (iq.b hL).2
        by_cases e : Edg L q
        · rw [a.1 e]
          exact ⟨by omega, by omega, fun _ => by omega⟩
        · rw [a.2 e]
          exact ⟨by omega, by omega, fun x => absurd x e⟩
      · have a := hI x (hP x hx).1 (by have := (hP x hx).1.2; omega)
        rw [a.2 (hP x hx).2]
        omega
    refine ⟨fun x s => zQ [63] σ s ∧ SPI L (s 63) ∧ (x = 0 ∨ x = 1) ∧ (x = 0 → SPF L (s 63)), fun x s => 2 * sgm 81 (s 63) + x.toNat, ⟨hq, hS, Or.inr rfl, fun e => absurd e (by decide)⟩, ?_⟩
    rintro x s ⟨hq, hS, hx, hf⟩ -
    refine ⟨fun c => ⟨hp2, h s hq (hf c)⟩, fun c => ?_⟩
    refine ⟨fun z y s' => zQ [63] σ s' ∧ SPI L (s' 63) ∧ 0 ≤ y ∧ y ≤ L 0 * L 1 ∧ ((z = 0 ∧ s' = s ∧ ∀ p g, inP L p → p < y → 0 ≤ g → g < 8 → bs L p g ≠ -1 → s 63 p ≤ max (s 63 (bs L p g)) (L (13 + p))) ∨ (z = 1 ∧ sgm 81 (s' 63) < sgm 81 (s 63))), fun _ y _ => (81 - y).toNat, ⟨hq, hS, by decide, by omega, Or.inl ⟨rfl, rfl, fun p g ip hlt => by have := ip.1; omega⟩⟩, ?_⟩
    rintro z y s' ⟨hq', hS', y0, y1, hz⟩ - -
    have hm'' := MM_Q hm hq' (by decide)
    refine t_M_places hm'' (by omega) ⟨fun d => ⟨⟨hq', hS', ?_, fun e => ?_⟩, ?_⟩, fun d => t_M_sinks hm'' hL ⟨y0, d⟩ hS' (fun hcl => n0b ⟨fun e => ?_, fun e => ?_⟩) (fun τ hτ hSτ hlt => n1b ?_)⟩
    · rcases hz with a | a
      · exact Or.inl a.1
      · exact Or.inr a.1
    · rcases hz with ⟨a, b, f⟩ | a
      · refine ⟨hS', ?_⟩
        rw [b]
        exact fun p g ip => f p g ip (by have := ip.2; omega)
      · omega
    · dsimp only
      have : x = 1 := hx.resolve_left c
      rcases hz with ⟨a, b, f⟩ | ⟨a, b⟩
      · rw [a, b, this]; omega
      · rw [a, this]; omega
    · refine ⟨⟨hq', hS', by omega, by omega, ?_⟩, zRi (by omega) (by omega), by dsimp only; omega⟩
      rcases hz with ⟨a, b, f⟩ | a
      · refine Or.inl ⟨rfl, b, fun p g ip hlt g0 g1 hb => ?_⟩
        by_cases ep : p = y
        · subst ep
          rw [← b]
          exact hcl g g0 g1 hb
        · exact f p g ip (by omega) g0 g1 hb
      · omega
    · refine ⟨⟨hq', hS', by omega, by omega, ?_⟩, zRi (by omega) (by omega), by dsimp only; omega⟩
      rcases hz with a | a
      · exact absurd a.1 e
      · exact Or.inr ⟨rfl, a.2⟩
    · refine ⟨⟨zQ_t hq' hτ, hSτ, by omega, by omega, Or.inr ⟨rfl, ?_⟩⟩, zRi (by omega) (by omega), by dsimp only; omega⟩
      rcases hz with ⟨a, b, f⟩ | a
      · rw [b] at hlt
        exact hlt
      · omega
  · rw [hm'.1] at e1
    exact nxt _ s1 e1 c ⟨fun _ => rfl, fun x => absurd e x⟩
theorem t_S_lowestMet {K : Int → zS → Prop} {σ : zS} {L : Int → Int} (hc : CC L σ) (hL : GW L) (hN : (∀ q, inP L q → σ 14 q ≠ 1) → K (-1) σ) (hx : ∀ x, inP L x → σ 14 x = 1 → (∀ q, inP L q → σ 14 q = 1 → L (13 + x) ≤ L (13 + q)) → K x σ) : q_S_lowestMet K σ := by
  have hn := hL.n
  unfold q_S_lowestMet
  refine ⟨fun x y s => s = σ ∧ 0 ≤ y ∧ y ≤ L 0 * L 1 ∧ ((x = -1 ∧ ∀ q, inP L q → q < y → σ 14 q ≠ 1) ∨ (inP L x ∧ σ 14 x = 1 ∧ ∀ q, inP L q → q < y → σ 14 q = 1 → L (13 + x) ≤ L (13 + q))), fun _ y _ => (81 - y).toNat, ⟨rfl, by decide, by omega, Or.inl ⟨rfl, fun q iq h => by have := iq.1; omega⟩⟩, ?_⟩
  rintro x y s ⟨rfl, y0, y1, hI⟩ - -
  refine t_L_places hc (by omega) ⟨fun c => ?_, fun c => ⟨by omega, fun d => ?_, fun d => ⟨fun e => ?_, fun e => ?_⟩⟩⟩
  · rcases hI with ⟨a, b⟩ | ⟨a, b, f⟩
    · rw [a]
      exact hN (fun q iq => b q iq (by have := iq.2; omega))
    · exact hx x a b (fun q iq => f q iq (by have := iq.2; omega))
  · refine ⟨⟨rfl, by omega, by omega, ?_⟩, zRi (by omega) (by omega), by dsimp only; omega⟩
    rcases hI with ⟨a, b⟩ | ⟨a, b, f⟩
    · refine Or.inl ⟨a, fun q iq hlt => ?_⟩
      by_cases eq : q = y
      · rw [eq]; exact d
      · exact b q iq (by omega)
    · refine Or.inr ⟨a, b, fun q iq hlt hm => ?_⟩
      by_cases eq : q = y
      · rw [eq] at hm; exact absurd hm d
      · exact f q iq (by omega) hm
  · refine ⟨⟨rfl, by omega, by omega, ?_⟩, zRi (by omega) (by omega), by dsimp only; omega⟩
    rcases hI with ⟨a, b⟩ | ⟨a, b, f⟩
    · refine Or.inr ⟨⟨y0, c⟩, d, fun q iq hlt hm => ?_⟩
      by_cases eq : q = y
      · rw [eq]; omega
      · exact absurd hm (b q iq (by omega))
    · exact absurd e a.ne
  · have ⟨a, b, f⟩ := hI.resolve_left (fun q => e q.1)
    refine t_L_height hc hL ⟨y0, c⟩ (t_L_height hc hL a ⟨fun g => ⟨⟨rfl, by omega, by omega, Or.inr ⟨a, b, fun q iq hlt hm => ?_⟩⟩, zRi (by omega) (by omega), by dsimp only; omega⟩, fun g => ⟨⟨rfl, by omega, by omega, Or.inr ⟨⟨y0, c⟩, d, fun q iq hlt hm => ?_⟩⟩, zRi (by omega) (by omega), by dsimp only; omega⟩⟩)
    · by_cases eq : q = y
      · rw [eq]; exact g
      · exact f q iq (by omega) hm
    · by_cases eq : q = y
      · rw [eq]; omega
      · have := f q iq (by omega) hm
        omega
theorem t_S_pass {K : zS → Prop} {σ : zS} {L : Int → Int} {p : Int} (hc : CC L σ) (hL : GW L) (hp : inP L p) (h : ∀ τ, zQ [14] σ τ → τ 14 p = 2 → (∀ q, q ≠ p → τ 14 q = σ 14 q ∨ (σ 14 q = 0 ∧ τ 14 q = 1 ∧ ∃ g, 0 ≤ g ∧ g < 8 ∧ bs L p g = q)) → (∀ g, 0 ≤ g → g < 8 → bs L p g ≠ -1 → τ 14 (bs L p g) ≠ 0) → K τ) : q_S_pass p K σ := by
  have hp2 := hp.b hL
  unfold q_S_pass
  refine ⟨hp2, fun s0 e0 => ⟨fun y s => zQ [14] σ s ∧ 0 ≤ y ∧ y ≤ 8 ∧ s 14 p = 2 ∧ (∀ q, q ≠ p → s 14 q = σ 14 q ∨ (σ 14 q = 0 ∧ s 14 q = 1 ∧ ∃ g, 0 ≤ g ∧ g < 8 ∧ bs L p g = q)) ∧ (∀ g, 0 ≤ g → g < y → bs L p g ≠ -1 → s 14 (bs L p g) ≠ 0), fun y _ => (8 - y).toNat, ⟨?_, by decide, by decide, ?_, fun q hq => ?_, fun g a b => by omega⟩, ?_⟩⟩
  · rw [e0]; exact zQ_U (by decide)
  · rw [e0, zU_s]
  · rw [e0, zU_k hq]
    exact Or.inl rfl
  rintro y s ⟨hq, y0, y8, hI1, hI2, hI3⟩ -
  have hc' := CC_Q hc hq (by decide)
  refine ⟨fun c => h s hq hI1 hI2 (fun g g0 g1 => hI3 g g0 (by omega)), fun c => t_L_besideOf hc' hL hp ⟨y0, c⟩ ⟨fun e => ⟨⟨hq, by omega, by omega, hI1, hI2, fun g g0 g1 hb => ?_⟩, zRi (by omega) (by omega), by dsimp only; omega⟩, fun e => ?_⟩⟩
  · by_cases eg : g = y
    · subst eg
      exact absurd e hb
    · exact hI3 g g0 (by omega) hb
  · refine ⟨(bs_in e).b hL, fun d => ⟨⟨hq, by omega, by omega, hI1, hI2, fun g g0 g1 hb => ?_⟩, zRi (by omega) (by omega), by dsimp only; omega⟩, fun d s1 e1 => ⟨⟨?_, by omega, by omega, ?_, fun q hqp => ?_, fun g g0 g1 hb => ?_⟩, zRi (by omega) (by omega), by dsimp only; omega⟩⟩
    · by_cases eg : g = y
      · subst eg
        exact d
      · exact hI3 g g0 (by omega) hb
    · rw [e1]; exact zQ_t hq (zQ_U (by decide))
    · rw [e1, zU_if, if_neg (fun x => bes_ne y0 c e x.symm)]
      exact hI1
    · rw [e1, zU_if]
      by_cases eq : q = bs L p y
      · rw [if_pos eq]
        refine Or.inr ⟨?_, rfl, y, y0, c, eq.symm⟩
        rcases hI2 q hqp with k | k
        · rw [← k, eq]; exact d
        · exact k.1
      · rw [if_neg eq]
        exact hI2 q hqp
    · rw [e1, zU_if]
      by_cases eq : bs L p g = bs L p y
      · rw [if_pos eq]; decide
      · rw [if_neg eq]
        by_cases eg : g = y
        · subst eg
          exact absurd rfl eq
        · exact hI3 g g0 (by omega) hb
theorem up0 {L : Int → Int} (hL : GW L) {p : Int} (hp : inP L p) (h : bs L p 0 ≠ -1) : bs L p 0 < p := by
  obtain ⟨e1, e2, -⟩ := bes_co h
  have d1 : dR 0 = -1 := by decide
  have d2 : dC 0 = 0 := by decide
  rw [d1] at e1
  rw [d2] at e2
  have g1 := gr_p (W := L 0) (p := p)
  have g2 := gr_p (W := L 0) (p := bs L p 0)
  rw [e1, e2, Int.add_mul] at g2
  have := hL.W
  omega
theorem t_S_spillOf {K : Int → zS → Prop} {σ : zS} {L : Int → Int} {p : Int} (hc : CC L σ) (hL : GW L) (hp : inP L p) (h : ∀ r τ, zQ [14] σ τ → (∀ d, SPF L d → r = d p) → K r τ) : q_S_spillOf p K σ := by
  have hp2 := hp.b hL
  have hn := hL.n
  have nb : ∀ P : Int → Prop, (∀ x, P x → inP L x ∧ ¬ Edg L x) → (∀ x g, P x → 0 ≤ g → g < 8 → bs L x g ≠ -1 → P (bs L x g)) → ∀ x, ¬ P x := by
    intro P h1 h2
    have key : ∀ n : Nat, ∀ x, x.toNat < n → ¬ P x := by
      intro n
      induction n with
      | zero => intro x h; exact absurd h (Nat.not_lt_zero _)
      | succ n ih =>
        intro x hx px
        have a := h1 x px
        have b : bs L x 0 ≠ -1 := fun e => a.2 ⟨0, by decide, by decide, e⟩
        have c := up0 hL a.1 b
        have := (bs_in b).1
        exact ih (bs L x 0) (by omega) (h2 x 0 px (by decide) (by decide) b)
    intro x
    exact key _ x (Nat.lt_succ_self _)
  unfold q_S_spillOf
  refine t_J_fill2 (M := 81) rfl ⟨hp2, fun s0 e0 => ?_⟩
  refine ⟨fun r k s => zQ [14] σ s ∧ 0 ≤ k ∧ k ≤ L 0 * L 1 ∧ 0 ≤ r ∧ r ≤ 99 ∧ s 14 p ≠ 0 ∧ (∀ q, inP L q → s 14 q = 0 ∨ s 14 q = 1 ∨ s 14 q = 2) ∧ (∀ q, inP L q → s 14 q = 2 → ¬ Edg L q ∧ L (13 + q) ≤ r) ∧ (∀ q g, inP L q → s 14 q = 2 → 0 ≤ g → g < 8 → bs L q g ≠ -1 → s 14 (bs L q g) ≠ 0) ∧ ((cnt (fun i => decide (s 14 (i : Nat) = 2)) (L 0 * L 1).toNat : Nat) : Int) = k ∧ (∀ d, SPF L d → r ≤ d p ∧ ∀ x, inP L x → s 14 x ≠ 0 → ∀ G, (∀ y, inP L y → s 14 y = 2 → L (13 + y) ≤ G) → d x ≤ G → d p ≤ G), fun _ k _ => (81 - k).toNat, ?_, ?_⟩
  · have f0 : ∀ q, s0 14 q = if q = p then 1 else zFill σ 14 0 81 0 14 q := fun q => by rw [e0, zU_if]
    have f1 : ∀ q, inP L q → s0 14 q = if q = p then 1 else 0 := fun q iq => by rw [f0 q, zFill_at (iq.b hL).1 (iq.b hL).2]
    have f2 : ∀ q, inP L q → s0 14 q ≠ 2 := fun q iq => by rw [f1 q iq]; split <;> decide
    refine ⟨?_, by decide, by omega, by decide, by decide, ?_, fun q iq => ?_, fun q iq e => absurd e (f2 q iq), fun q g iq e => absurd e (f2 q iq), ?_, fun d hd => ⟨?_, fun x ix hx G _ hG => ?_⟩⟩
    · rw [e0]; exact zQ_t (zQ_F (by decide)) (zQ_U (by decide))
    · rw [f1 p hp, if_pos rfl]; decide
    · rw [f1 q iq]; split <;> simp
    · have : cnt (fun i => decide (s0 14 (i : Nat) = 2)) (L 0 * L 1).toNat = cnt (fun _ => false) (L 0 * L 1).toNat := cnt_congr _ (fun i hi => decide_eq_false (f2 i ⟨by omega, by omega⟩))
      rw [this]
      have z : ∀ n, cnt (fun _ => false) n = 0 := fun n => by
        induction n with
        | zero => rfl
        | succ n ih => show cnt (fun _ => false) n + _ = 0; rw [ih]; rfl
      rw [z]
      rfl
    · have := (hd.1.1 p hp).1
      have := hL.2.2.1 p hp2.1 hp2.2
      omega
    · rw [f1 x ix] at hx
      by_cases e : x = p
      · rw [← e]; exact hG
      · rw [if_neg e] at hx
        exact absurd rfl hx
  rintro r k s ⟨hq, k0, k1, r0, r1, hpm, hv, hpass, hnb, hcnt, hd⟩ - -
  have hc' := CC_Q hc hq (by decide)
  refine t_L_places hc' (by omega) ⟨fun c => ?_, fun c => ?_⟩
  · exfalso
    have i0 : inP L 0 := ⟨by decide, by omega⟩
    have e0 : Edg L 0 := (bes_edge hL.W i0.1 i0.2).mp (Or.inl (by rw [Int.zero_ediv]))
    have : s 14 0 ≠ 2 := fun e => (hpass 0 i0 e).1 e0
    have := cnt_full (P := fun i => decide (s 14 (i : Nat) = 2)) (j := 0) (n := (L 0 * L 1).toNat) (by omega) (decide_eq_false this)
    omega
  · refine t_S_lowestMet hc' hL (fun hno => ⟨fun e => absurd rfl e, fun _ => ?_⟩) (fun x ix hx hlow => ⟨fun _ => ?_, fun e => absurd e ix.ne⟩)
    · exfalso
      have two : ∀ q, inP L q → s 14 q ≠ 0 → s 14 q = 2 := fun q iq h0 => by
        have := hv q iq
        have := hno q iq
        omega
      exact nb (fun q => inP L q ∧ s 14 q = 2) (fun x hx => ⟨hx.1, (hpass x hx.1 hx.2).1⟩) (fun x g hx g0 g1 hb => ⟨bs_in hb, two _ (bs_in hb) (hnb x g hx.1 hx.2 g0 g1 hb)⟩) p ⟨hp, two p hp hpm⟩
    · have hxb := ix.b hL
      have hxh := hL.2.2.1 x hxb.1 hxb.2
      refine t_L_height hc' hL ix (fun g eg => ?_)
      have hlb : ∀ d, SPF L d → g ≤ d p := by
        intro d hd'
        have a := (hd d hd').1
        have b : L (13 + x) ≤ d p := by
          by_cases e1 : s 14 p = 1
          · have := hlow p hp e1
            have := (hd'.1.1 p hp).1
            omega
          · have e2 : s 14 p = 2 := by have := hv p hp; omega
            refine hd'.1.2 (fun q => inP L q ∧ s 14 q = 2) (L (13 + x)) hxh.2 (fun y hy => ⟨hy.1, (hpass y hy.1 hy.2).1⟩) (fun y g hy g0 g1 hb => ?_) p ⟨hp, e2⟩
            have n0 := hnb y g hy.1 hy.2 g0 g1 hb
            have iq := bs_in hb
            by_cases e3 : s 14 (bs L y g) = 2
            · exact Or.inl ⟨iq, e3⟩
            · exact Or.inr (hlow _ iq (by have := hv _ iq; omega))
        omega
      refine t_L_isEdge hc' hL ix (fun e => n1a (h g s hq (fun d hd' => ?_))) (fun e => n0a ?_)
      · have a := hlb d hd'
        have b := (hd d hd').2 x ix (by omega) g (fun y iy hy => by have := (hpass y iy hy).2; omega) (by have := (hd'.1.1 x ix).2.2 e; omega)
        omega
      · have ne : ¬ Edg L x := fun ⟨g, g0, g1, hb⟩ => e g g0 g1 hb
        refine t_S_pass hc' hL ix (fun τ hτ h2 hoth hnew => ⟨⟨zQ_t hq hτ, by omega, by omega, by omega, by omega, ?_, fun q iq => ?_, fun q iq hq2 => ?_, fun q g' iq hq2 g0 g1 hb => ?_, ?_, fun d hd' => ⟨hlb d hd', fun y iy hy G hG hdy => ?_⟩⟩, zRi (by omega) (by omega), by dsimp only; omega⟩)
        · by_cases ep : p = x
          · rw [ep, h2]; decide
          · rcases hoth p ep with q | q
            · rw [q]; exact hpm
            · exact absurd q.1 hpm
        · by_cases ep : q = x
          · rw [ep, h2]; simp
          · rcases hoth q ep with k | k
            · rw [k]; exact hv q iq
            · rw [k.2.1]; simp
        · by_cases ep : q = x
          · rw [ep]; exact ⟨ne, by omega⟩
          · rcases hoth q ep with k | k
            · rw [k] at hq2
              have := hpass q iq hq2
              exact ⟨this.1, by omega⟩
            · rw [k.2.1] at hq2
              exact absurd hq2 (by decide)
        · by_cases ep : q = x
          · subst ep
            exact hnew g' g0 g1 hb
          · rcases hoth q ep with k | k
            · rw [k] at hq2
              have := hnb q g' iq hq2 g0 g1 hb
              by_cases ep2 : bs L q g' = x
              · rw [ep2, h2]; decide
              · rcases hoth _ ep2 with k | k
                · rw [k]; exact this
                · exact absurd k.1 this
            · rw [k.2.1] at hq2
              exact absurd hq2 (by decide)
        · have e1 : ∀ q, τ 14 q = 2 ↔ (s 14 q = 2 ∨ q = x) := fun q => by
            by_cases ep : q = x
            · rw [ep, h2]; simp
            · rcases hoth q ep with k | k
              · rw [k]; simp [ep]
              · rw [k.1, k.2.1]; simp [ep]
          have hx2 : ((x.toNat : Nat) : Int) = x := Int.toNat_of_nonneg ix.1
          have lt1 := cnt_lt (P := fun i => decide (s 14 (i : Nat) = 2)) (Q := fun i => decide (τ 14 (i : Nat) = 2)) (j := x.toNat) (L 0 * L 1).toNat (by have := ix.1; have := ix.2; omega) (fun i _ hi => by simp only [decide_eq_true_eq] at hi ⊢; exact (e1 i).mpr (Or.inl hi)) (by simp only [hx2]; exact decide_eq_false (by omega)) (by simp only [hx2]; exact decide_eq_true h2)
          have le1 : cnt (fun i => decide (τ 14 (i : Nat) = 2)) (L 0 * L 1).toNat ≤ cnt (fun i => decide (s 14 (i : Nat) = 2)) (L 0 * L 1).toNat + 1 := cnt_one x.toNat _ (fun i _ hne => by
            have : ((i : Nat) : Int) ≠ x := fun q => hne (by omega)
            have := e1 i
            by_cases q : s 14 (i : Int) = 2
            · rw [decide_eq_true q, decide_eq_true (this.mpr (Or.inl q))]
            · rw [decide_eq_false q, decide_eq_false (fun z => by rcases this.mp z with z | z <;> contradiction)])
          omega
        · have old : ∀ y, inP L y → s 14 y = 2 → L (13 + y) ≤ G := fun y iy h2y => hG y iy (by
            by_cases ep : y = x
            · rw [ep]; exact h2
            · rcases hoth y ep with k | k
              · rw [k]; exact h2y
              · rw [k.1] at h2y; exact absurd h2y (by decide))
          have hxG := hG x ix h2
          by_cases ep : y = x
          · exact (hd d hd').2 y iy (by rw [ep]; omega) G old hdy
          · rcases hoth y ep with k | ⟨k1, k2, g', g0, g1, hb⟩
            · rw [k] at hy
              exact (hd d hd').2 y iy hy G old hdy
            · have cl := hd'.2 x g' ix g0 g1 (by rw [hb]; exact iy.ne)
              rw [hb] at cl
              exact (hd d hd').2 x ix (by omega) G old (by omega)
