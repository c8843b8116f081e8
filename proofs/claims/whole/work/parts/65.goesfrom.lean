/-! ===== the reference's rounds: what was gone from a place ===== -/
def fBs (L : Int → Int) (A B fr v b : Int) : Prop := ∃ g, (0 ≤ g ∧ g < 8) ∧ Sty L A B fr g ∧ v = 8 * bs L fr g + g ∧ b = cst L fr g
def fEd (L : Int → Int) (A B v u w : Int) : Prop := ∃ p h g, inP L p ∧ (0 ≤ h ∧ h < 8) ∧ (0 ≤ g ∧ g < 8) ∧ Sty L A B p g ∧ Bnd L p h g ∧ u = 8 * p + h ∧ v = 8 * bs L p g + g ∧ w = cst L p g + bcs L h g
theorem fEd_b {L : Int → Int} {A B v u w : Int} (hL : GW L) (h : fEd L A B v u w) : (0 ≤ v ∧ v < 648) ∧ (0 ≤ u ∧ u < 648) ∧ 1 ≤ w ∧ w ≤ 1004 := by
  obtain ⟨p, h, g, ip, hh, hg, st, -, e1, e2, e3⟩ := h
  have h1 := ip.b hL
  have h2 := (bs_in st.1.1).b hL
  have h3 := cst_b hL ip st.1.1
  have h4 := bcs_b hL hh.1 hh.2 hg.1 hg.2
  omega
abbrev RF (L : Int → Int) (A B fr : Int) (d : Int → Int) : Prop := RI 648 1000000000 1004 (fBs L A B fr) (fEd L A B) d
theorem RF_bd {L : Int → Int} {A B fr : Int} {d : Int → Int} (h : RF L A B fr d) {v : Int} (v0 : 0 ≤ v) (v1 : v < 648) : 0 ≤ d v ∧ d v ≤ 1000000000 ∧ (d v ≠ 1000000000 → d v ≤ 650592) := by
  have a := h.1 v v0 v1
  have b := cnt_le (fun i => decide (d (i : Nat) < 1000000000)) 648
  exact ⟨a.1, a.2.1, fun q => by have := a.2.2 (by omega); omega⟩
def fC (L : Int → Int) (A B : Int) (P : Int → Int → Prop) (d : Int → Int) : Prop := ∀ p h g, inP L p → (0 ≤ h ∧ h < 8) → (0 ≤ g ∧ g < 8) → P (8 * p + h) g → Sty L A B p g → Bnd L p h g → d (8 * p + h) < 1000000000 → d (8 * bs L p g + g) ≤ d (8 * p + h) + (cst L p g + bcs L h g)
theorem CB0 (L : Int → Int) : CB L (fun _ => 0) := fun _ _ => ⟨Int.le_refl 0, (by decide : (0 : Int) ≤ 81)⟩
theorem t_M_goesFrom {K : zS → Prop} {σ : zS} {L : Int → Int} {A B fr : Int} (hm : MM L A B σ) (hL : GW L) (hR : RB L) (hfr : inP L fr) (h : ∀ τ, zQ [51] σ τ → (∀ v : Int, 0 ≤ v → v < 648 → 0 ≤ τ 51 v ∧ τ 51 v ≤ 1000000000 ∧ (τ 51 v ≠ 1000000000 → τ 51 v ≤ 650592)) → Lab 1000000000 (fun v : Int => 0 ≤ v ∧ v < 648) (fBs L A B fr) (fEd L A B) (τ 51) → K τ) : q_M_goesFrom fr K σ := by
  have hn := hL.n
  have hfb := hfr.b hL
  unfold q_M_goesFrom
  refine ⟨fun y s => zQ [51] σ s ∧ 0 ≤ y ∧ y ≤ 648 ∧ ∀ v, 0 ≤ v → v < y → s 51 v = 1000000000, fun y _ => (648 - y).toNat, ⟨zQ_r _ _, by decide, by decide, fun v a b => by omega⟩, ?_⟩
  rintro y s ⟨hq, y0, y1, hI⟩ -
  refine ⟨fun c => ?_, fun c => ⟨⟨y0, c⟩, fun s1 e1 => ⟨⟨by rw [e1]; exact zQ_t hq (zQ_U (by decide)), by omega, by omega, fun v v0 v1 => ?_⟩, zRi (by omega) (by omega), by dsimp only; omega⟩⟩⟩
  · -- the first steps
    refine ⟨fun y s => zQ [51] σ s ∧ 0 ≤ y ∧ y ≤ 8 ∧ ∀ v, 0 ≤ v → v < 648 → (s 51 v = 1000000000 ∧ (∀ g, 0 ≤ g → g < y → Sty L A B fr g → v ≠ 8 * bs L fr g + g)) ∨ ∃ g, (0 ≤ g ∧ g < y) ∧ Sty L A B fr g ∧ v = 8 * bs L fr g + g ∧ s 51 v = cst L fr g, fun y _ => (8 - y).toNat, ⟨hq, by decide, by decide, fun v v0 v1 => Or.inl ⟨hI v v0 (by omega), fun g a b => by omega⟩⟩, ?_⟩
    rintro y s ⟨hq, y0, y8, hI⟩ -
    have hm' := MM_Q hm hq (by decide)
    refine ⟨fun c8 => ?_, fun c8 => t_M_canStep hm' hL hfr ⟨y0, c8⟩ (fun st => n1a (t_M_beside hm' hL hfr ⟨y0, c8⟩ (t_M_stepOf (C := fun _ => 0) hm' hL hR (CB0 L) (fun e => absurd e (by decide)) (by decide) hfr ⟨y0, c8⟩ st.1.1 ?_))) (fun st => n0a ⟨⟨hq, by omega, by omega, fun v v0 v1 => ?_⟩, zRi (by omega) (by omega), by dsimp only; omega⟩)⟩
    · -- the rounds
      have hG : RF L A B fr (s 51) := by
        refine ⟨fun v v0 v1 => ?_, fun v hv hf => ?_, fun v b hb => ?_⟩
        · rcases hI v v0 v1 with ⟨a, -⟩ | ⟨g, hg, st, ev, e⟩
          · rw [a]
            exact ⟨by omega, by omega, fun q => absurd q (by omega)⟩
          · have cb := cst_b hL hfr st.1.1
            have ec : ((v.toNat : Nat) : Int) = v := Int.toNat_of_nonneg v0
            have c1 := cnt_lt (P := fun _ => false) (Q := fun i => decide (s 51 (i : Nat) < 1000000000)) (j := v.toNat) 648 (by omega) (fun _ _ q => by simp at q) rfl (by simp only [ec]; exact decide_eq_true (by omega))
            exact ⟨by omega, by omega, fun _ => by omega⟩
        · rcases hI v hv.1 hv.2 with ⟨a, -⟩ | ⟨g, hg, st, ev, e⟩
          · omega
          · exact Or.inl ⟨g, ⟨hg.1, by omega⟩, st, ev, e⟩
        · obtain ⟨g, hg, st, ev, eb⟩ := hb
          have iq := (bs_in st.1.1).b hL
          rcases hI v (by omega) (by omega) with ⟨-, q⟩ | ⟨g', hg', st', ev', e⟩
          · exact absurd ev (q g hg.1 (by omega) st)
          · have : g' = g := by omega
            subst this
            rw [e, eb]
            exact Int.le_refl _
      refine ⟨fun x s => zQ [51] σ s ∧ RF L A B fr (s 51) ∧ (x = 0 ∨ x = 1) ∧ (x = 0 → fC L A B (fun _ _ => True) (s 51)), fun x s => 2 * sgm 648 (s 51) + x.toNat, ⟨hq, hG, Or.inr rfl, fun e => absurd e (by decide)⟩, ?_⟩
      rintro x s ⟨hq, hG, hx, hf⟩ -
      refine ⟨fun e => h s hq (fun v v0 v1 => RF_bd hG v0 v1) (RI_lab hG (fun v u w he hfu => ?_)), fun e => ?_⟩
      · obtain ⟨p, hh, g, ip, hh', hg, st, bd, e1, e2, e3⟩ := he
        rw [e1] at hfu
        rw [e1, e2, e3]
        exact hf e p hh g ip hh' hg trivial st bd hfu
      refine ⟨fun z k s' => zQ [51] σ s' ∧ RF L A B fr (s' 51) ∧ 0 ≤ k ∧ k ≤ 8 * (L 0 * L 1) ∧ ((z = 0 ∧ s' = s ∧ fC L A B (fun u _ => u < k) (s 51)) ∨ (z = 1 ∧ sgm 648 (s' 51) < sgm 648 (s 51))), fun _ k _ => (648 - k).toNat, ⟨hq, hG, by decide, by omega, Or.inl ⟨rfl, rfl, fun p hh g ip hh' _ hP => by have := ip.1; have : 8 * p + hh < 0 := hP; omega⟩⟩, ?_⟩
      rintro z k s' ⟨hq', hG', k0, k1, hz⟩ - -
      have hm' := MM_Q hm hq' (by decide)
      refine t_M_places hm' (by omega) ⟨zRi (by omega) (by omega), fun d => ⟨⟨hq', hG', ?_, fun e0 => ?_⟩, ?_⟩, fun d => ⟨by omega, fun nf x20 e20 => ?_, fun ff => ⟨⟨hq', hG', by omega, by omega, ?_⟩, zRi (by omega) (by omega), by dsimp only; omega⟩⟩⟩
      · rcases hz with a | a
        · exact Or.inl a.1
        · exact Or.inr a.1
      · rcases hz with ⟨a, b, f⟩ | a
        · rw [b]
          intro p hh g ip hh' hg _
          exact f p hh g ip hh' hg (by show 8 * p + hh < k; have := ip.2; omega)
        · omega
      · dsimp only
        have : x = 1 := hx.resolve_left e
        rcases hz with ⟨a, b, f⟩ | ⟨a, b⟩
        · rw [a, b, this]; omega
        · rw [a, this]; omega
      · rw [Int.tdiv_eq_ediv_of_nonneg k0] at e20
        have ip : inP L x20 := ⟨by omega, by omega⟩
        have ipb := ip.b hL
        have hh : 0 ≤ k % 8 ∧ k % 8 < 8 := by omega
        have ek : 8 * x20 + k % 8 = k := by omega
        have kfin := RF_bd hG' (v := k) k0 (by omega)
        refine ⟨fun z' g s2 => zQ [51] σ s2 ∧ RF L A B fr (s2 51) ∧ 0 ≤ g ∧ g ≤ 8 ∧ s2 51 k ≠ 1000000000 ∧ ((z' = 0 ∧ s2 = s ∧ fC L A B (fun u g' => u < k ∨ (u = k ∧ g' < g)) (s 51)) ∨ (z' = 1 ∧ sgm 648 (s2 51) < sgm 648 (s 51))), fun _ g _ => (8 - g).toNat, ⟨hq', hG', by decide, by decide, nf, ?_⟩, ?_⟩
        · rcases hz with ⟨a, b, f⟩ | a
          · exact Or.inl ⟨a, b, fun p hh g ip hh' hg hP => f p hh g ip hh' hg (by have hP' : 8 * p + hh < k ∨ (8 * p + hh = k ∧ g < 0) := hP; show 8 * p + hh < k; omega)⟩
          · exact Or.inr a
        rintro z' g s2 ⟨hq2, hG2, g0, g8, nf2, hz2⟩ - -
        have hm2 := MM_Q hm hq2 (by decide)
        have kb := RF_bd hG2 (v := k) k0 (by omega)
        have cont : g < 8 → (s2 = s → Sty L A B x20 g → Bnd L x20 (k % 8) g → s 51 (8 * bs L x20 g + g) ≤ s 51 k + (cst L x20 g + bcs L (k % 8) g)) → ∀ z3, (z3 = z') → (zQ [51] σ s2 ∧ RF L A B fr (s2 51) ∧ 0 ≤ g + 1 ∧ g + 1 ≤ 8 ∧ s2 51 k ≠ 1000000000 ∧ ((z3 = 0 ∧ s2 = s ∧ fC L A B (fun u g' => u < k ∨ (u = k ∧ g' < g + 1)) (s 51)) ∨ (z3 = 1 ∧ sgm 648 (s2 51) < sgm 648 (s 51)))) ∧ zR (g + 1) ∧ (8 - (g + 1)).toNat < (8 - g).toNat := by
          intro c8 hcl z3 ez
          refine ⟨⟨hq2, hG2, by omega, by omega, nf2, ?_⟩, zRi (by omega) (by omega), by omega⟩
          rcases hz2 with ⟨a, b, f⟩ | a
          · refine Or.inl ⟨by omega, b, fun p hh g' ip' hh' hg hP st bd hf' => ?_⟩
            have hP' : 8 * p + hh < k ∨ (8 * p + hh = k ∧ g' < g + 1) := hP
            by_cases q : 8 * p + hh = k ∧ g' = g
            · have ep : p = x20 := by omega
              have eh : hh = k % 8 := by omega
              rw [q.2] at st bd ⊢
              subst ep
              rw [eh] at bd ⊢
              rw [ek]
              exact hcl b st bd
            · exact f p hh g' ip' hh' hg (by show 8 * p + hh < k ∨ (8 * p + hh = k ∧ g' < g); omega) st bd hf'
          · exact Or.inr ⟨by omega, a.2⟩
        refine ⟨fun c8 => ⟨⟨hq2, hG2, by omega, by omega, ?_⟩, zRi (by omega) (by omega), by dsimp only; omega⟩, fun c8 => ⟨zRi (by omega) (by omega), t_M_canStep hm2 hL ip ⟨g0, c8⟩ (fun st => n1a ?_) (fun st => n0a (cont c8 (fun _ q => absurd q st) z' rfl))⟩⟩
        · rcases hz2 with ⟨a, b, f⟩ | a
          · exact Or.inl ⟨a, b, fun p hh g' ip' hh' hg hP => f p hh g' ip' hh' hg (by have hP' : 8 * p + hh < k + 1 := hP; show 8 * p + hh < k ∨ (8 * p + hh = k ∧ g' < g); omega)⟩
          · exact Or.inr a
        · rw [Int.tmod_eq_emod_of_nonneg k0]
          refine ⟨zRi (by omega) (by omega), t_M_canBend hm2 hL ip hh ⟨g0, c8⟩ (fun bd => n1b ?_) (fun bd => n0b (cont c8 (fun _ _ q => absurd q bd) z' rfl))⟩
          have iq := (bs_in st.1.1).b hL
          have cb := cst_b hL ip st.1.1
          have bb := bcs_b hL hh.1 hh.2 g0 c8
          refine t_M_beside hm2 hL ip ⟨g0, c8⟩ (t_M_stepOf (C := fun _ => 0) hm2 hL hR (CB0 L) (fun e => absurd e (by decide)) (by decide) ip ⟨g0, c8⟩ st.1.1 (t_M_bendCost hm2 hL hh ⟨g0, c8⟩ ?_))
          have ks : kst L (fun _ => 0) 0 x20 g = cst L x20 g := by unfold kst; rw [if_pos rfl]
          rw [ks]
          have kf := kb.2.2 nf2
          refine ⟨zRi (by omega) (by omega), zRi (by omega) (by omega), ?_⟩
          unfold q_M_isLesser
          have hE : fEd L A B (8 * bs L x20 g + g) k (cst L x20 g + bcs L (k % 8) g) := ⟨x20, k % 8, g, ip, hh, ⟨g0, c8⟩, st, bd, ek.symm, rfl, rfl⟩
          refine ⟨by omega, fun lt s4 e4 => n1b ?_, fun le => n0b ⟨fun z0 => cont c8 (fun b _ _ => ?_) 0 z0.symm, fun z0 => cont c8 (fun b _ _ => ?_) 1 ?_⟩⟩
          · have hU := RI_up hG2 (v := 8 * bs L x20 g + g) (u := k) (w := cst L x20 g + bcs L (k % 8) g) (by omega) (by omega) k0 (by omega) hE (by omega) (by omega) (by omega) (by omega)
            have hs := sgm_up (N := 648) (d := s2 51) (v := 8 * bs L x20 g + g) (x := s2 51 k + (cst L x20 g + bcs L (k % 8) g)) (by omega) (by omega) (by omega) (by omega)
            have e51 : s4 51 = up (s2 51) (8 * bs L x20 g + g) (s2 51 k + (cst L x20 g + bcs L (k % 8) g)) := by rw [e4, zU_up, Int.add_assoc]
            have hne : k ≠ 8 * bs L x20 g + g := fun q => by
              have := bes_ne g0 c8 st.1.1
              have : bs L x20 g = x20 := by omega
              exact absurd this (bes_ne g0 c8 st.1.1)
            refine ⟨⟨by rw [e4]; exact zQ_t hq2 (zQ_U (by decide)), by rw [e51]; exact hU, by omega, by omega, by rw [e51, up_o hne]; exact nf2, Or.inr ⟨rfl, ?_⟩⟩, zRi (by omega) (by omega), by dsimp only; omega⟩
            rw [e51]
            rcases hz2 with ⟨a, b, f⟩ | a
            · rw [b] at hs ⊢
              exact hs
            · omega
          · rw [b] at le
            omega
          · rw [b] at le
            omega
          · rcases hz2 with a | a
            · exact absurd a.1 z0
            · exact a.1.symm
      · rcases hz with ⟨a, b, f⟩ | a
        · refine Or.inl ⟨a, b, fun p hh g ip hh' hg hP st bd hf' => ?_⟩
          have hP' : 8 * p + hh < k + 1 := hP
          by_cases q : 8 * p + hh = k
          · rw [b] at ff
            rw [q] at hf'
            omega
          · exact f p hh g ip hh' hg (by show 8 * p + hh < k; omega) st bd hf'
        · exact Or.inr a
    · have iq := (bs_in st.1.1).b hL
      refine ⟨by omega, fun s1 e1 => ⟨⟨by rw [e1]; exact zQ_t hq (zQ_U (by decide)), by omega, by omega, fun v v0 v1 => ?_⟩, zRi (by omega) (by omega), by dsimp only; omega⟩⟩
      have ks : kst L (fun _ => 0) 0 fr y = cst L fr y := by unfold kst; rw [if_pos rfl]
      rw [e1, zU_if, ks]
      by_cases e : v = 8 * bs L fr y + y
      · rw [if_pos e]
        exact Or.inr ⟨y, ⟨y0, by omega⟩, st, e, rfl⟩
      · rw [if_neg e]
        rcases hI v v0 v1 with ⟨a, q⟩ | ⟨g, hg, st', ev, ee⟩
        · refine Or.inl ⟨a, fun g g0 g1 st' => ?_⟩
          by_cases eg : g = y
          · rw [eg]; exact e
          · exact q g g0 (by omega) st'
        · exact Or.inr ⟨g, ⟨hg.1, by omega⟩, st', ev, ee⟩
    · rcases hI v v0 v1 with ⟨a, q⟩ | ⟨g, hg, st', ev, ee⟩
      · refine Or.inl ⟨a, fun g g0 g1 st' => ?_⟩
        by_cases eg : g = y
        · rw [eg] at st'
          exact absurd st' st
        · exact q g g0 (by omega) st'
      · exact Or.inr ⟨g, ⟨hg.1, by omega⟩, st', ev, ee⟩
  · rw [e1, zU_if]
    by_cases e : v = y
    · rw [if_pos e]
    · rw [if_neg e]
      exact hI v v0 (by omega)
