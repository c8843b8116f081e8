/-! ===== along ===== -/
def WayR (L : Int → Int) (A B kind from_ to_ m : Int) (P : Int → Int) : Prop := ∃ a n, GT (mBs to_) (mEd L (catL L) A B kind to_) a n ∧ Lab 1025000000000 (fun v : Int => 0 ≤ v ∧ v < 648) (mBs to_) (mEd L (catL L) A B kind to_) (enc a n) ∧ ((m = 0 ∧ ∀ g, 0 ≤ g → g < 8 → ¬ CnM L A B (enc a n) from_ (-1) g) ∨ ((1 ≤ m ∧ m ≤ 649) ∧ WayP L (CnM L A B (enc a n)) (cvM L (catL L) kind (enc a n)) from_ to_ (m - 1) P))
theorem path_match {L wt lf P P' : Int → Int} {A B kind from_ to_ m n : Int} (hL : GW L) (ifr : inP L from_) (ito : inP L to_) (ne : from_ ≠ to_) (hw : WtS L (catL L) A B kind wt lf) (hk : WkP L (bwk L kind) wt lf from_ to_ n P') (hv : WayR L A B kind from_ to_ m P) : n = m ∧ ∀ k, 0 ≤ k → k < m → P' k = P k := by
  obtain ⟨a, b, hG, hLab, hr⟩ := hv
  have hCB := catL_CB hL
  have hbd := GT_bd hG
  have hD := De_lab hL hCB ito hw hbd hLab
  have first : ∀ {Cn : Int → Int → Int → Prop} {cv : Int → Int → Int → Int} {n : Int} {Q : Int → Int}, WayP L Cn cv from_ to_ n Q → ∃ g, (0 ≤ g ∧ g < 8) ∧ Cn from_ (-1) g := by
    rintro Cn cv n Q ⟨p0, pn, n0, -, H, H0, HH⟩
    have n1 : 0 < n := by
      by_cases q : n = 0
      · rw [q, p0] at pn
        exact absurd pn ne
      · omega
    have f := (HH 0 (by omega) n1).1
    rw [p0, H0] at f
    exact ⟨_, f.1, f.2.1⟩
  rcases hr with ⟨m0, hno⟩ | ⟨hm, hway⟩
  · rcases hk _ hD with ⟨n0, -⟩ | ⟨hn, hway'⟩
    · exact ⟨by omega, fun k k0 k1 => by omega⟩
    · obtain ⟨g, hg, hc⟩ := first hway'
      exact absurd ((Cn_iff (hd := -1) hL hCB hw hbd hLab ifr hg.1 hg.2).1.mpr hc) (hno g hg.1 hg.2)
  · rcases hk _ hD with ⟨n0, hno⟩ | ⟨hn, hway'⟩
    · obtain ⟨g, hg, hc⟩ := first hway
      exact absurd ((Cn_iff (hd := -1) hL hCB hw hbd hLab ifr hg.1 hg.2).1.mp hc) (hno g hg.1 hg.2)
    · have u := Way_uniq ifr CnM_b (fun p hd g ip _ _ g0 g1 => Cn_iff (hd := hd) hL hCB hw hbd hLab ip g0 g1) hway hway'
      exact ⟨by omega, fun k k0 k1 => (u.2 k k0 (by omega)).symm⟩
/-- the reference's way, behind its guard -/
theorem t_M_wayR {K : Int → zS → Prop} {σ : zS} {L : Int → Int} {A B kind from_ to_ : Int} (hm : MM L A B σ) (hL : GW L) (hW : RWs L) (hk : 0 ≤ kind ∧ kind ≤ 5) (i1 : inP L from_) (i2 : inP L to_) (h1 : ∀ τ, zQ [41, 51, 52, 54, 62] σ τ → (∀ k, k ≠ 20 → τ 41 k = σ 41 k) → (kind = 5 → ∀ p, inP L p → τ 62 p = catL L p) → (1 ≤ τ 41 20 ∧ τ 41 20 ≤ 649) → (∃ Cn cv, (∀ p h g, inP L p → Cn p h g → bs L p g ≠ -1) ∧ WayP L Cn cv from_ to_ (τ 41 20 - 1) (τ 54)) → WayR L A B kind from_ to_ (τ 41 20) (τ 54) → (from_ ≠ to_ → WayV L A B kind from_ to_ (smI (mtm L (catL L) kind (τ 54)) (τ 41 20 - 1).toNat)) → K 1 τ) (h0 : ∀ τ, zQ [41, 51, 52, 54, 62] σ τ → (∀ k, k ≠ 20 → τ 41 k = σ 41 k) → (∀ P, WayR L A B kind from_ to_ 0 P) → WayV L A B kind from_ to_ (-1) → K 0 τ) : q_M_isWay from_ to_ kind K σ := by
  refine t_M_isWay hm hL hW.rb hk i1 i2 (fun r τ q f41 hcat hG hLab hr => ?_)
  rcases hr with ⟨r1, n1, n2, hway⟩ | ⟨r0, -, hno⟩
  · rw [r1]
    exact h1 τ q f41 hcat ⟨n1, n2⟩ ⟨_, _, CnM_b, hway⟩ ⟨_, _, hG, hLab, Or.inr ⟨⟨n1, n2⟩, hway⟩⟩ (fun ne => ⟨_, _, hG, hLab, Or.inr (Way_total hL (catL_CB hL) i1 i2 ne hLab (by omega) hway)⟩)
  · rw [r0]
    exact h0 τ q f41 (fun P => ⟨_, _, hG, hLab, Or.inl ⟨rfl, hno⟩⟩) ⟨_, _, hG, hLab, Or.inl ⟨rfl, hno⟩⟩
theorem f41_fcor {σ τ : zS} (h : ∀ k, k ≠ 20 → τ 41 k = σ 41 k) : ∀ k ∈ fcor, τ 41 k = σ 41 k := fun k hk => h k (by revert hk; revert k; decide)
theorem t_M_along {K : Int → zS → Prop} {σ : zS} {L : Int → Int} {from_ to_ kind k : Int} (hm : MM L (-1) (-1) σ) (hl : LW L) (h1 : ¬ (inP L from_ ∧ inP L to_) → K 0 (zU σ 41 0 1)) (h2 : inP L from_ → inP L to_ → ¬ (0 ≤ kind ∧ kind ≤ 5) → K 0 (zU σ 41 0 2)) (h3 : inP L from_ → inP L to_ → (0 ≤ kind ∧ kind ≤ 5) → from_ = to_ → K 0 (zU σ 41 0 3)) (h0 : inP L from_ → inP L to_ → (0 ≤ kind ∧ kind ≤ 5) → from_ ≠ to_ → ∀ m P τ, FR σ τ → τ 64 = σ 64 → τ 41 0 = 0 → WayR L (-1) (-1) kind from_ to_ m P → K (if 0 ≤ k ∧ k < m then P k else -1) τ) : q_M_along from_ to_ kind k K σ := by
  unfold q_M_along
  have hn := hl.n
  have main : inP L from_ → inP L to_ → (0 ≤ kind ∧ kind ≤ 5) → from_ ≠ to_ → ∀ s5, s5 = zU σ 41 0 0 → q_M_isWay from_ to_ kind (fun r9 σ8 => (r9 = 0 → K (-1) σ8) ∧ (r9 ≠ 0 → zR ((σ8 41 20) - 1) ∧ (q_M_isIn k 0 ((σ8 41 20) - 1) (fun r14 σ13 => (r14 = 0 → K (-1) σ13) ∧ (r14 ≠ 0 → (0 ≤ k ∧ k < 700) ∧ (K (σ13 54 k) σ13))) σ8))) s5 := by
    intro i1 i2 hk ne s5 e5
    obtain ⟨hL, hW⟩ := hl.gw i1
    have hm5 : MM L (-1) (-1) s5 := by rw [e5]; exact MM_F hm (by decide)
    have fr5 : FR σ s5 := by rw [e5]; exact FR_F (by decide)
    refine t_M_wayR hm5 hL hW hk i1 i2 (fun τ q f41 _ hn2 _ hv _ => n1a ?_) (fun τ q f41 hv _ => n0a ?_)
    all_goals
      have fr : FR σ τ := FR_t fr5 (FR_Qf q (by decide) (f41_fcor f41))
      have e64 : τ 64 = σ 64 := by rw [q 64 (by decide), e5, zU_row (by decide)]
      have e0 : τ 41 0 = 0 := by rw [f41 0 (by decide), e5, zU_s]
    · have a := h0 i1 i2 hk ne (τ 41 20) (τ 54) τ fr e64 e0 hv
      refine ⟨zRi (by omega) (by omega), t_M_isIn (fun c d => n1a ⟨by omega, ?_⟩) (fun c => n0a ?_)⟩
      · rw [if_pos ⟨c, by omega⟩] at a
        exact a
      · rw [if_neg (by omega)] at a
        exact a
    · have a := h0 i1 i2 hk ne 0 (fun _ => 0) τ fr e64 e0 (hv _)
      rw [if_neg (by omega)] at a
      exact a
  have guard := gd3 (σ := σ) (K := fun s => K 0 s) (c1 := ¬ (inP L from_ ∧ inP L to_)) (c2 := ¬ (0 ≤ kind ∧ kind ≤ 5)) (c3 := from_ = to_) h1 (fun a b => h2 (Classical.not_not.mp a).1 (Classical.not_not.mp a).2 b) (fun a b c => h3 (Classical.not_not.mp a).1 (Classical.not_not.mp a).2 (Classical.not_not.mp b) c) (fun a b c => main (Classical.not_not.mp a).1 (Classical.not_not.mp a).2 (Classical.not_not.mp b) c _ rfl)
  refine t_M_isPlace hm hn (fun i1 => ?_) (fun i1 => ?_)
  · refine ⟨fun w s => s = σ ∧ GdP (¬ (inP L from_ ∧ inP L to_)) (¬ (0 ≤ kind ∧ kind ≤ 5)) (from_ = to_) w, fun w s4 hj _ => guard w s4 hj, fun s => s = σ ∧ ¬ (inP L from_ ∧ inP L to_), fun s hs => ⟨hs.1, Or.inl ⟨rfl, hs.2⟩⟩, n1a (t_M_isPlace hm hn (fun i2 => n1b (t_M_isIn (fun a b => n1b ?_) (fun a => n0b ?_))) (fun i2 => n0b ⟨rfl, fun x => i2 x.2⟩))⟩
    · have g1 : ¬ ¬ (inP L from_ ∧ inP L to_) := fun x => x ⟨i1, i2⟩
      have g2 : ¬ ¬ (0 ≤ kind ∧ kind ≤ 5) := fun x => x ⟨a, b⟩
      exact ⟨fun ne => ⟨rfl, Or.inr ⟨g1, Or.inr ⟨g2, Or.inr ⟨rfl, ne⟩⟩⟩⟩, fun e => ⟨rfl, Or.inr ⟨g1, Or.inr ⟨g2, Or.inl ⟨rfl, e⟩⟩⟩⟩⟩
    · exact ⟨rfl, Or.inr ⟨fun x => x ⟨i1, i2⟩, Or.inl ⟨rfl, a⟩⟩⟩
  · exact ⟨fun w s => s = σ ∧ GdP (¬ (inP L from_ ∧ inP L to_)) (¬ (0 ≤ kind ∧ kind ≤ 5)) (from_ = to_) w, fun w s4 hj _ => guard w s4 hj, fun s => s = σ ∧ ¬ (inP L from_ ∧ inP L to_), fun s hs => ⟨hs.1, Or.inl ⟨rfl, hs.2⟩⟩, n0a ⟨rfl, fun x => i1 x.1⟩⟩
theorem pr_along {σ : zS} {a b c k : Int} (hi : INV σ) : q_A_along a b c k (fun r u => q_M_along a b c k (fun v w => Agr r v w) u) σ := by
  obtain ⟨L, hc, hm, hl, -⟩ := id hi
  have hn := hl.n
  unfold q_A_along q_R_along
  refine t_R_needPair hc hn (fun i1 i2 => t_R_needAnswer (fun c0 c1 => t_R_needUnlike (fun ne => ?_) (fun e => Or.inr (Or.inr ⟨rfl, ?_⟩))) (fun nk => Or.inr (Or.inl ⟨rfl, ?_⟩))) (fun ni => Or.inl ⟨rfl, ?_⟩)
  · obtain ⟨hL, hW⟩ := hl.gw i1
    refine t_W_find hc hL hW ⟨c0, by omega⟩ i1 i2 (fun m τ q hf hsz hin hwk => ?_)
    have fin : ∀ v, v = (if 0 ≤ k ∧ k < τ 15 13 then τ 25 k else -1) → q_M_along a b c k (fun v w => Agr 0 v w) (zU τ 64 0 v) := by
      intro v hv
      have fr : FR σ (zU τ 64 0 v) := FR_t (FR_Q q (by decide) (by decide)) (FR_U (by decide) (by decide))
      refine t_M_along (FR_MM fr hm) hl (fun x => absurd ⟨i1, i2⟩ x) (fun _ _ x => absurd ⟨c0, by omega⟩ x) (fun _ _ _ e => absurd e ne) (fun _ _ _ _ m P τ' fr' e64 e0 hr => ⟨e0, fun _ => ?_, INV_FR (FR_t fr fr') hi⟩)
      rw [e64, zU_s, hv]
      have pm := path_match hL i1 i2 ne hf.2.1 hwk hr
      rw [pm.1]
      by_cases hk : 0 ≤ k ∧ k < m
      · rw [if_pos hk, if_pos hk]
        exact pm.2 k hk.1 hk.2
      · rw [if_neg hk, if_neg hk]
    refine ⟨fun d => fin _ (by rw [if_neg (by omega)]), fun d => ?_⟩
    unfold q_W_pathSize q_W_path
    refine ⟨fun d2 => fin _ (by rw [if_neg (by omega)]), fun d2 => ⟨by omega, fin _ (by rw [if_pos ⟨d, d2⟩])⟩⟩
  · exact t_M_along hm hl (fun x => absurd ⟨i1, i2⟩ x) (fun _ _ x => absurd ⟨c0, by omega⟩ x) (fun _ _ _ _ => Agr_x hi (by decide)) (fun _ _ _ ne => absurd e ne)
  · exact t_M_along hm hl (fun x => absurd ⟨i1, i2⟩ x) (fun _ _ _ => Agr_x hi (by decide)) (fun _ _ hk _ => absurd ⟨hk.1, by omega⟩ nk) (fun _ _ hk _ => absurd ⟨hk.1, by omega⟩ nk)
  · exact t_M_along hm hl (fun _ => Agr_x hi (by decide)) (fun x y => absurd ⟨x, y⟩ ni) (fun x y => absurd ⟨x, y⟩ ni) (fun x y => absurd ⟨x, y⟩ ni)
