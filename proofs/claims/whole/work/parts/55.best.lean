/-! ===== best, along ===== -/
theorem Agr_x {σ : zS} {r b : Int} (hi : INV σ) (hr : r ≠ 0) : Agr r b (zU σ 41 0 r) := ⟨zU_s _ _ _ _, fun e => absurd e hr, INV_FR (FR_F (by decide)) hi⟩
/-- what is thrown, by three conditions in turn -/
def GdP (c1 c2 c3 : Prop) (w : Int) : Prop := (w = 1 ∧ c1) ∨ (¬ c1 ∧ ((w = 2 ∧ c2) ∨ (¬ c2 ∧ ((w = 3 ∧ c3) ∨ (w = 0 ∧ ¬ c3)))))
theorem gd3 {σ : zS} {K body : zS → Prop} {c1 c2 c3 : Prop} (h1 : c1 → K (zU σ 41 0 1)) (h2 : ¬ c1 → c2 → K (zU σ 41 0 2)) (h3 : ¬ c1 → ¬ c2 → c3 → K (zU σ 41 0 3)) (h0 : ¬ c1 → ¬ c2 → ¬ c3 → body (zU σ 41 0 0)) : ∀ (w : Int) (s4 : zS), (s4 = σ ∧ GdP c1 c2 c3 w) → ∀ s5, s5 = zU s4 41 0 w → (s5 41 0 ≤ 0 → body s5) ∧ (0 < s5 41 0 → K s5) := by
  rintro w s4 ⟨rfl, hw⟩ s5 e5
  have e0 : s5 41 0 = w := by rw [e5, zU_s]
  rw [e0]
  refine ⟨fun c => ?_, fun c => ?_⟩
  · rcases hw with ⟨a, -⟩ | ⟨a1, ⟨a, -⟩ | ⟨a2, ⟨a, -⟩ | ⟨a, a3⟩⟩⟩
    · omega
    · omega
    · omega
    · rw [e5, a]; exact h0 a1 a2 a3
  · rw [e5]
    rcases hw with ⟨a, b⟩ | ⟨a1, ⟨a, b⟩ | ⟨a2, ⟨a, b⟩ | ⟨a, a3⟩⟩⟩
    · rw [a]; exact h1 b
    · rw [a]; exact h2 a1 b
    · rw [a]; exact h3 a1 a2 b
    · omega
/-- what find leaves -/
def FndP (L : Int → Int) (kind from_ to_ m : Int) (τ : zS) : Prop := GS L (bwk L kind) (τ 16) (τ 17) 1 τ ∧ WtS L (catL L) (-1) (-1) kind (τ 16) (τ 17) ∧ (∀ v : Int, 0 ≤ v → v < 648 → 0 ≤ τ 22 v ∧ τ 22 v ≤ 1000000000) ∧ LkP (τ 22) 1 from_ m ∧ (∀ D, Lab 1000000000 (fun v : Int => 0 ≤ v ∧ v < (648 : Nat)) (cBs L (τ 16) (τ 17) 1 to_) (cEd L (bwk L kind) (τ 16) (τ 17) 1) D → SrP 648 from_ D (τ 22))
theorem t_W_measure {K : Int → zS → Prop} {σ : zS} {L : Int → Int} {kind from_ to_ : Int} (hc : CC L σ) (hL : GW L) (hW : RWs L) (hk : 0 ≤ kind ∧ kind ≤ 5) (ifr : inP L from_) (ito : inP L to_) (h : ∀ m τ, zQ [12, 13, 15, 16, 17, 18, 19, 20, 21, 22, 23, 24] σ τ → FndP L kind from_ to_ m τ → K (if m = 1000000000 then -1 else m / 1024) τ) : q_W_measure from_ to_ kind K σ := by
  have t2 : 0 ≤ L 2 ∧ L 2 ≤ 99 := by have := hL.2.1; omega
  unfold q_W_measure
  refine t_L_value (v := 2) hc (by decide) rfl (t_W_prepare hc hL hW hk t2 (fun τ1 q1 _ hP => ?_))
  have hc1 := CC_Q hc q1 (by decide)
  obtain ⟨hG, hw⟩ := PR_ready hc1 hP
  obtain ⟨hB, h1⟩ := WtS_WB hL (catL_CB hL) hw
  refine t_W_search (N := 648) rfl hG hB hL ito (fun τ2 q2 hS _ hb => t_W_left (ly := 1) ?_ (by decide) (ifr.b hL) (fun v a b => hb v a (by omega)) (fun m hm => h m τ2 (zQ_t (zQ_m q1 (by decide)) (zQ_m q2 (by decide))) ?_))
  · rw [q2 15 (by decide)]; exact hG.2.2.1
  · refine ⟨?_, ?_, hb, hm, ?_⟩
    · rw [q2 16 (by decide), q2 17 (by decide)]; exact GS_Q hG q2 (by decide)
    · rw [q2 16 (by decide), q2 17 (by decide)]; exact hw
    · rw [q2 16 (by decide), q2 17 (by decide)]; exact hS
theorem t_W_find {K : Int → zS → Prop} {σ : zS} {L : Int → Int} {kind from_ to_ : Int} (hc : CC L σ) (hL : GW L) (hW : RWs L) (hk : 0 ≤ kind ∧ kind ≤ 5) (ifr : inP L from_) (ito : inP L to_) (h : ∀ m τ, zQ [12, 13, 15, 16, 17, 18, 19, 20, 21, 22, 23, 24, 25] σ τ → FndP L kind from_ to_ m τ → (0 ≤ τ 15 13 ∧ τ 15 13 ≤ 649) → (∀ k, 0 ≤ k → k < τ 15 13 → inP L (τ 25 k)) → WkP L (bwk L kind) (τ 16) (τ 17) from_ to_ (τ 15 13) (τ 25) → K (if m = 1000000000 then -1 else m / 1024) τ) : q_W_find from_ to_ kind K σ := by
  have t2 : 0 ≤ L 2 ∧ L 2 ≤ 99 := by have := hL.2.1; omega
  unfold q_W_find
  refine t_L_value (v := 2) hc (by decide) rfl (t_W_prepare hc hL hW hk t2 (fun τ1 q1 _ hP => ?_))
  have hc1 := CC_Q hc q1 (by decide)
  obtain ⟨hG, hw⟩ := PR_ready hc1 hP
  obtain ⟨hB, h1⟩ := WtS_WB hL (catL_CB hL) hw
  refine t_W_search (N := 648) rfl hG hB hL ito (fun τ2 q2 hS _ hb => ?_)
  have hG2 := GS_Q hG q2 (by decide)
  refine t_W_walk hG2 hB h1 hL ifr ito hb hS (fun τ3 q3 f15 hn hin hwk => t_W_left (ly := 1) ?_ (by decide) (ifr.b hL) (fun v a b => by rw [q3 22 (by decide)]; exact hb v a (by omega)) (fun m hm => h m τ3 (zQ_t (zQ_m q1 (by decide)) (zQ_t (zQ_m q2 (by decide)) (zQ_m q3 (by decide)))) ?_ hn hin ?_))
  · rw [f15 12 (by decide)]; exact hG2.2.2.1
  · have e16 : τ3 16 = τ1 16 := by rw [q3 16 (by decide), q2 16 (by decide)]
    have e17 : τ3 17 = τ1 17 := by rw [q3 17 (by decide), q2 17 (by decide)]
    refine ⟨?_, by rw [e16, e17]; exact hw, fun v v0 v1 => by rw [q3 22 (by decide)]; exact hb v v0 (by omega), hm, by rw [e16, e17, q3 22 (by decide)]; exact hS⟩
    obtain ⟨a1, a2, a3, a4, a5, a6, a7⟩ := hG2
    refine ⟨CC_Q a1 q3 (by decide), ?_, ?_, ?_, ?_, rfl, rfl⟩
    · rw [f15 11 (by decide)]; exact a2
    · rw [f15 12 (by decide)]; exact a3
    · rw [q3 19 (by decide)]; exact a4
    · rw [q3 18 (by decide)]; exact a5
  · rw [q3 16 (by decide), q3 17 (by decide), q2 16 (by decide), q2 17 (by decide)]; exact hwk
theorem Bst_iff {L : Int → Int} {Cn Cn' : Int → Int → Int → Prop} {cv cv' : Int → Int → Int → Int} {p h g : Int} (hc : ∀ g, 0 ≤ g → g < 8 → (Cn p h g ↔ Cn' p h g) ∧ (Cn p h g → cv p h g = cv' p h g)) (hb : BstG L Cn cv p h g) : BstG L Cn' cv' p h g := by
  refine ⟨hb.1, (hc g hb.1.1 hb.1.2).1.mp hb.2.1, fun g' g0 g1 h' => ?_⟩
  have h2 := (hc g' g0 g1).1.mpr h'
  rw [← (hc g hb.1.1 hb.1.2).2 hb.2.1, ← (hc g' g0 g1).2 h2]
  exact hb.2.2 g' g0 g1 h2
/-- the value of the best way -/
def WayV (L : Int → Int) (A B kind from_ to_ r : Int) : Prop := ∃ a n, GT (mBs to_) (mEd L (catL L) A B kind to_) a n ∧ Lab 1025000000000 (fun v : Int => 0 ≤ v ∧ v < 648) (mBs to_) (mEd L (catL L) A B kind to_) (enc a n) ∧ ((r = -1 ∧ ∀ g, 0 ≤ g → g < 8 → ¬ CnM L A B (enc a n) from_ (-1) g) ∨ ∃ g, BstG L (CnM L A B (enc a n)) (cvM L (catL L) kind (enc a n)) from_ (-1) g ∧ r = cvM L (catL L) kind (enc a n) from_ (-1) g / 1024)
theorem val_match {L wt lf d : Int → Int} {A B kind from_ to_ m r : Int} (hL : GW L) (ifr : inP L from_) (ito : inP L to_) (hw : WtS L (catL L) A B kind wt lf) (hm : LkP d 1 from_ m) (hS : ∀ D, Lab 1000000000 (fun v : Int => 0 ≤ v ∧ v < (648 : Nat)) (cBs L wt lf 1 to_) (cEd L (bwk L kind) wt lf 1) D → SrP 648 from_ D d) (hv : WayV L A B kind from_ to_ r) : (if m = 1000000000 then -1 else m / 1024) = r := by
  obtain ⟨a, n, hG, hLab, hr⟩ := hv
  have hCB := catL_CB hL
  have hbd := GT_bd hG
  have hD := De_lab hL hCB ito hw hbd hLab
  have hci := fun g g0 g1 => Cn_iff (p := from_) (hd := -1) (g := g) hL hCB hw hbd hLab ifr g0 g1
  have lk := lk_lab hL (WtS_WB hL hCB hw).1 ifr (hS _ hD) hD hm
  by_cases e : m = 1000000000
  · rw [if_pos e]
    rcases hr with q | ⟨g, hb, -⟩
    · exact q.1.symm
    · exact absurd ((hci g hb.1.1 hb.1.2).1.mp hb.2.1) (lk.1 e g hb.1.1 hb.1.2)
  · rw [if_neg e]
    obtain ⟨⟨g0, hg0, hc0⟩, hu⟩ := lk.2 e
    rcases hr with ⟨-, q⟩ | ⟨g, hb, er⟩
    · exact absurd ((hci g0 hg0.1 hg0.2).1.mpr hc0) (q g0 hg0.1 hg0.2)
    · have := hu g (Bst_iff (fun g' a b => hci g' a b) hb)
      rw [er, (hci g hb.1.1 hb.1.2).2 hb.2.1, this]
theorem t_M_best {K : Int → zS → Prop} {σ : zS} {L : Int → Int} {from_ to_ kind : Int} (hm : MM L (-1) (-1) σ) (hl : LW L) (h1 : ¬ (inP L from_ ∧ inP L to_) → K 0 (zU σ 41 0 1)) (h2 : inP L from_ → inP L to_ → ¬ (0 ≤ kind ∧ kind ≤ 5) → K 0 (zU σ 41 0 2)) (h3 : inP L from_ → inP L to_ → (0 ≤ kind ∧ kind ≤ 5) → from_ = to_ → K 0 (zU σ 41 0 3)) (h0 : inP L from_ → inP L to_ → (0 ≤ kind ∧ kind ≤ 5) → from_ ≠ to_ → ∀ r τ, FR σ τ → τ 64 = σ 64 → τ 41 0 = 0 → WayV L (-1) (-1) kind from_ to_ r → K r τ) : q_M_best from_ to_ kind K σ := by
  unfold q_M_best
  have hn := hl.n
  have main : inP L from_ → inP L to_ → (0 ≤ kind ∧ kind ≤ 5) → from_ ≠ to_ → ∀ s5, s5 = zU σ 41 0 0 → q_M_isWay from_ to_ kind (fun r9 σ8 => (r9 = 0 → K (-1) σ8) ∧ (r9 ≠ 0 → q_M_measure kind (fun r12 σ11 => K r12 σ11) σ8)) s5 := by
    intro i1 i2 hk ne s5 e5
    obtain ⟨hL, hW⟩ := hl.gw i1
    have hm5 : MM L (-1) (-1) s5 := by rw [e5]; exact MM_F hm (by decide)
    refine t_M_isWay hm5 hL hW.rb hk i1 i2 (fun r τ q f41 hcat hG hLab hr => ?_)
    have fr : FR σ τ := FR_t (by rw [e5]; exact FR_F (by decide)) (FR_Qf q (by decide) (fun k hk => f41 k (by revert hk; revert k; decide)))
    have e64 : τ 64 = σ 64 := by rw [q 64 (by decide), e5, zU_row (by decide)]
    have e0 : τ 41 0 = 0 := by rw [f41 0 (by decide), e5, zU_s]
    rcases hr with ⟨r1, n1, n2, hway⟩ | ⟨r0, -, hno⟩
    · rw [r1]
      refine n1a ?_
      obtain ⟨hA, hin, -⟩ := Way_adj i1 CnM_b hway
      rw [show τ 41 20 - 1 + 1 = τ 41 20 by omega] at hA
      refine t_M_measure (C := catL L) (FR_MM fr hm) hL hW.rb (catL_CB hL) hcat hk ⟨n1, by omega⟩ hA (h0 i1 i2 hk ne _ τ fr e64 e0 ⟨_, _, hG, hLab, Or.inr ?_⟩)
      exact Way_total hL (catL_CB hL) i1 i2 ne hLab (by omega) hway
    · rw [r0]
      exact n0a (h0 i1 i2 hk ne _ τ fr e64 e0 ⟨_, _, hG, hLab, Or.inl ⟨rfl, hno⟩⟩)
  have guard := gd3 (σ := σ) (K := fun s => K 0 s) (c1 := ¬ (inP L from_ ∧ inP L to_)) (c2 := ¬ (0 ≤ kind ∧ kind ≤ 5)) (c3 := from_ = to_) h1 (fun a b => h2 (Classical.not_not.mp a).1 (Classical.not_not.mp a).2 b) (fun a b c => h3 (Classical.not_not.mp a).1 (Classical.not_not.mp a).2 (Classical.not_not.mp b) c) (fun a b c => main (Classical.not_not.mp a).1 (Classical.not_not.mp a).2 (Classical.not_not.mp b) c _ rfl)
  refine t_M_isPlace hm hn (fun i1 => ?_) (fun i1 => ?_)
  · refine ⟨fun w s => s = σ ∧ GdP (¬ (inP L from_ ∧ inP L to_)) (¬ (0 ≤ kind ∧ kind ≤ 5)) (from_ = to_) w, fun w s4 hj _ => guard w s4 hj, fun s => s = σ ∧ ¬ (inP L from_ ∧ inP L to_), fun s hs => ⟨hs.1, Or.inl ⟨rfl, hs.2⟩⟩, n1a (t_M_isPlace hm hn (fun i2 => n1b (t_M_isIn (fun a b => n1b ?_) (fun a => n0b ?_))) (fun i2 => n0b ⟨rfl, fun x => i2 x.2⟩))⟩
    · have g1 : ¬ ¬ (inP L from_ ∧ inP L to_) := fun x => x ⟨i1, i2⟩
      have g2 : ¬ ¬ (0 ≤ kind ∧ kind ≤ 5) := fun x => x ⟨a, b⟩
      exact ⟨fun ne => ⟨rfl, Or.inr ⟨g1, Or.inr ⟨g2, Or.inr ⟨rfl, ne⟩⟩⟩⟩, fun e => ⟨rfl, Or.inr ⟨g1, Or.inr ⟨g2, Or.inl ⟨rfl, e⟩⟩⟩⟩⟩
    · exact ⟨rfl, Or.inr ⟨fun x => x ⟨i1, i2⟩, Or.inl ⟨rfl, a⟩⟩⟩
  · exact ⟨fun w s => s = σ ∧ GdP (¬ (inP L from_ ∧ inP L to_)) (¬ (0 ≤ kind ∧ kind ≤ 5)) (from_ = to_) w, fun w s4 hj _ => guard w s4 hj, fun s => s = σ ∧ ¬ (inP L from_ ∧ inP L to_), fun s hs => ⟨hs.1, Or.inl ⟨rfl, hs.2⟩⟩, n0a ⟨rfl, fun x => i1 x.1⟩⟩
theorem pr_best {σ : zS} {a b c : Int} (hi : INV σ) : q_A_best a b c (fun r u => q_M_best a b c (fun v w => Agr r v w) u) σ := by
  obtain ⟨L, hc, hm, hl, -⟩ := id hi
  have hn := hl.n
  unfold q_A_best q_R_best
  refine t_R_needPair hc hn (fun i1 i2 => t_R_needAnswer (fun c0 c1 => t_R_needUnlike (fun ne => ?_) (fun e => Or.inr (Or.inr ⟨rfl, ?_⟩))) (fun nk => Or.inr (Or.inl ⟨rfl, ?_⟩))) (fun ni => Or.inl ⟨rfl, ?_⟩)
  · obtain ⟨hL, hW⟩ := hl.gw i1
    refine t_W_measure hc hL hW ⟨c0, by omega⟩ i1 i2 (fun m τ q hf => ?_)
    have fr : FR σ (zU τ 64 0 (if m = 1000000000 then -1 else m / 1024)) := FR_t (FR_Q q (by decide) (by decide)) (FR_U (by decide) (by decide))
    refine t_M_best (FR_MM fr hm) hl (fun x => absurd ⟨i1, i2⟩ x) (fun _ _ x => absurd ⟨c0, by omega⟩ x) (fun _ _ _ e => absurd e ne) (fun _ _ _ _ r τ' fr' e64 e0 hv => ⟨e0, fun _ => ?_, INV_FR (FR_t fr fr') hi⟩)
    rw [e64, zU_s]
    exact val_match hL i1 i2 hf.2.1 hf.2.2.2.1 hf.2.2.2.2 hv
  · exact t_M_best hm hl (fun x => absurd ⟨i1, i2⟩ x) (fun _ _ x => absurd ⟨c0, by omega⟩ x) (fun _ _ _ _ => Agr_x hi (by decide)) (fun _ _ _ ne => absurd e ne)
  · exact t_M_best hm hl (fun x => absurd ⟨i1, i2⟩ x) (fun _ _ _ => Agr_x hi (by decide)) (fun _ _ hk _ => absurd ⟨hk.1, by omega⟩ nk) (fun _ _ hk _ => absurd ⟨hk.1, by omega⟩ nk)
  · exact t_M_best hm hl (fun _ => Agr_x hi (by decide)) (fun x y => absurd ⟨x, y⟩ ni) (fun x y => absurd ⟨x, y⟩ ni) (fun x y => absurd ⟨x, y⟩ ni)
