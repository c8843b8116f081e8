/-! ===== the search: what is offered ===== -/
def GS (L bw wt lf : Int → Int) (ly : Int) (σ : zS) : Prop := CC L σ ∧ σ 15 11 = L 3 ∧ σ 15 12 = ly ∧ (∀ e, 0 ≤ e → e ≤ 4 → σ 19 e = bw e) ∧ (∀ p, inP L p → σ 18 p = cif (Flt L p) 1 0) ∧ σ 16 = wt ∧ σ 17 = lf
def WB (L bw wt lf : Int → Int) (ly : Int) : Prop := (1 ≤ ly ∧ ly ≤ 4) ∧ (∀ e, 0 ≤ e → e ≤ 4 → 0 ≤ bw e ∧ bw e ≤ 101376) ∧ (∀ p g, inP L p → 0 ≤ g → g < 8 → wt (8 * p + g) = -1 ∨ (bs L p g ≠ -1 ∧ (lf (8 * p + g) = 0 ∨ lf (8 * p + g) = 1) ∧ 1 ≤ wt (8 * p + g) ∧ wt (8 * p + g) + 101376 ≤ 319000 + lf (8 * p + g) * 1200000))
theorem GS_Q {S : List Nat} {L bw wt lf : Int → Int} {ly : Int} {σ τ : zS} (h : GS L bw wt lf ly σ) (hq : zQ S σ τ) (h1 : 4 ∉ S ∧ 5 ∉ S ∧ 15 ∉ S ∧ 16 ∉ S ∧ 17 ∉ S ∧ 18 ∉ S ∧ 19 ∉ S) : GS L bw wt lf ly τ := by
  obtain ⟨a1, a2, a3, a4, a5, a6, a7⟩ := h
  unfold GS
  rw [hq 15 h1.2.2.1, hq 16 h1.2.2.2.1, hq 17 h1.2.2.2.2.1, hq 18 h1.2.2.2.2.2.1, hq 19 h1.2.2.2.2.2.2]
  exact ⟨CC_Q a1 hq ⟨h1.1, h1.2.1⟩, a2, a3, a4, a5, a6, a7⟩
theorem t_W_canBend {K : Int → zS → Prop} {σ : zS} {L bw wt lf : Int → Int} {ly p g h : Int} (hG : GS L bw wt lf ly σ) (hL : GW L) (hp : inP L p) (hg : 0 ≤ g ∧ g < 8) (hh : 0 ≤ h ∧ h < 8) (hT : Bnd L p g h → K 1 σ) (hF : ¬ Bnd L p g h → K 0 σ) : q_W_canBend p g h K σ := by
  have hp2 := hp.b hL
  unfold q_W_canBend
  rw [hG.2.2.2.2.1 p hp]
  refine ⟨hp2, fun c => ?_, fun c => ?_⟩
  · by_cases f : Flt L p
    · exact hT (Or.inr f)
    · rw [cif_f f] at c
      exact absurd rfl c
  · have nf : ¬ Flt L p := fun f => by
      rw [cif_t f] at c
      exact absurd c (by decide)
    refine t_R_eighths hg hh ?_
    rw [hG.2.1]
    exact ⟨fun d => hF (fun b => b.elim (fun e => by omega) nf), fun d => hT (Or.inl d)⟩
def Off (L bw wt lf : Int → Int) (ly q after l key g v x : Int) : Prop := bs L q (opp g) ≠ -1 ∧ wt (8 * bs L q (opp g) + g) ≠ -1 ∧ l + lf (8 * bs L q (opp g) + g) < ly ∧ (after ≠ -1 → Bnd L q g after) ∧ v = (l + lf (8 * bs L q (opp g) + g)) * 648 + (8 * bs L q (opp g) + g) ∧ x = key + (if after = -1 then 0 else bw (eig g after)) + wt (8 * bs L q (opp g) + g)
theorem t_W_offerStepsTo {K : zS → Prop} {σ : zS} {L bw wt lf : Int → Int} {ly q after l key : Int} (hG : GS L bw wt lf ly σ) (hB : WB L bw wt lf ly) (hL : GW L) (hq : inP L q) (ha : after = -1 ∨ (0 ≤ after ∧ after < 8)) (hl : 0 ≤ l ∧ l < 4) (hk : 0 ≤ key ∧ key < 1000000000) (Inv : Int → zS → Prop) (hI : ∀ g s, Inv g s → zQ [21, 22, 23, 24] σ s) (h0 : Inv 0 σ) (hskip : ∀ g s, Inv g s → 0 ≤ g → g < 8 → (∀ v x, ¬ Off L bw wt lf ly q after l key g v x) → Inv (g + 1) s) (hoff : ∀ g s v x, Inv g s → 0 ≤ g → g < 8 → Off L bw wt lf ly q after l key g v x → (0 ≤ v ∧ v < ly * 648) → q_H_offer v x (Inv (g + 1)) s) (hend : ∀ s, Inv 8 s → K s) : q_W_offerStepsTo q after l key K σ := by
  unfold q_W_offerStepsTo
  have mono : ∀ (v x : Int) (s : zS) (P Q : zS → Prop), (∀ t, P t → Q t) → q_H_offer v x P s → q_H_offer v x Q s := by
    intro v x s P Q hPQ h
    unfold q_H_offer q_H_rise at h ⊢
    refine ⟨h.1, fun c => ?_, fun c => hPQ _ (h.2.2 c)⟩
    obtain ⟨J, h1, h2⟩ := h.2.1 c
    refine ⟨J, fun s5 j s6 e6 => ?_, h2⟩
    obtain ⟨I, μ, i0, i1⟩ := h1 s5 j s6 e6
    refine ⟨I, μ, i0, fun y1 s2 hi hz => ?_⟩
    obtain ⟨J2, j1, j2⟩ := i1 y1 s2 hi hz
    refine ⟨J2, fun w3 s4 a b => ⟨(j1 w3 s4 a b).1, fun s6 e6 => ⟨((j1 w3 s4 a b).2 s6 e6).1, fun s8 e8 => hPQ _ (((j1 w3 s4 a b).2 s6 e6).2 s8 e8)⟩⟩, j2⟩
  refine ⟨fun y s => Inv y s ∧ 0 ≤ y ∧ y ≤ 8, fun y _ => (8 - y).toNat, ⟨h0, by decide, by decide⟩, ?_⟩
  rintro y s ⟨hIs, y0, y8⟩ -
  have hGs := GS_Q hG (hI y s hIs) (by decide)
  obtain ⟨hc, g11, g12, g19, g18, g16, g17⟩ := id hGs
  refine ⟨fun c => hend s ((show y = 8 by omega) ▸ hIs), fun c => t_R_opposite (t_L_besideOf hc hL hq opp_r (fun x8 e8 => ?_))⟩
  have skip : (∀ v x, ¬ Off L bw wt lf ly q after l key y v x) → (Inv (y + 1) s ∧ 0 ≤ y + 1 ∧ y + 1 ≤ 8) ∧ zR (y + 1) ∧ (8 - (y + 1)).toNat < (8 - y).toNat := fun hn => ⟨⟨hskip y s hIs y0 c hn, by omega, by omega⟩, zRi (by omega) (by omega), by omega⟩
  rw [Int.mul_comm] at e8
  refine ⟨fun d => skip (fun v x o => o.1 d), fun d => ?_⟩
  have ip := bs_in d
  have ip2 := ip.b hL
  have hbk : bs L (bs L q (opp y)) y = q := by
    have := bs_opp hL hq opp_r.1 opp_r.2 d
    rw [opp_opp y0 c] at this
    exact this
  subst e8
  rw [g16, g17, g12]
  refine ⟨by omega, fun e => skip (fun v x o => o.2.1 e), fun e => ?_⟩
  have hw := (hB.2.2 _ y ip y0 c).resolve_left e
  have hlf : 0 ≤ lf (8 * bs L q (opp y) + y) ∧ lf (8 * bs L q (opp y) + y) ≤ 1 := by omega
  refine ⟨zRi (by omega) (by omega), fun f => ⟨fun w t => t = s ∧ (after ≠ -1 → Bnd L q y after) ∧ w = (if after = -1 then 0 else bw (eig y after)), fun w t hj _ => ?_, fun a => ⟨rfl, fun b => absurd a b, by rw [if_pos a]⟩, fun a => ?_⟩, fun f => skip (fun v x o => by have := o.2.2.1; omega)⟩
  · obtain ⟨rfl, hbd, hw2⟩ := hj
    have hwb : 0 ≤ w ∧ w ≤ 101376 := by
      rw [hw2]
      split
      · omega
      · have ee := eig_b y0 c (ha.resolve_left (by assumption)).1 (ha.resolve_left (by assumption)).2
        exact hB.2.1 _ ee.1 ee.2
    rw [g16, g17]
    have hly := hB.1
    have hv : 0 ≤ (l + lf (8 * bs L q (opp y) + y)) * 648 + (8 * bs L q (opp y) + y) ∧ (l + lf (8 * bs L q (opp y) + y)) * 648 + (8 * bs L q (opp y) + y) < ly * 648 := by omega
    refine ⟨zRi (by omega) (by omega), zRi (by omega) (by omega), mono _ _ _ _ _ (fun t ht => ?_) (hoff y t _ _ hIs y0 c ⟨d, e, f, hbd, rfl, by rw [hw2]⟩ hv)⟩
    exact ⟨⟨ht, by omega, by omega⟩, zRi (by omega) (by omega), by dsimp only; omega⟩
  · have ha2 := ha.resolve_left a
    refine t_W_canBend hGs hL hq ⟨y0, c⟩ ha2 (fun b => n1b (t_R_eighths ⟨y0, c⟩ ha2 ?_)) (fun b => n0b (skip (fun v x o => b (o.2.2.2.1 a))))
    have ee := eig_b y0 c ha2.1 ha2.2
    refine ⟨by omega, fun x38 e38 => ⟨rfl, fun _ => b, ?_⟩⟩
    rw [if_neg a, e38]
    exact g19 _ ee.1 ee.2
