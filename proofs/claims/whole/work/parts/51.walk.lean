def CnC (L wt D : Int → Int) (p h g : Int) : Prop := wt (8 * p + g) ≠ -1 ∧ (h ≠ -1 → Bnd L p h g) ∧ D (8 * p + g) < 1000000000
def cvC (bw D : Int → Int) (p h g : Int) : Int := D (8 * p + g) + (if h = -1 then 0 else bw (eig h g))
/-- weights of ways without bores: no lifts, one step each -/
def W1 (L bw wt lf : Int → Int) : Prop := (∀ p g, inP L p → 0 ≤ g → g < 8 → wt (8 * p + g) ≠ -1 → lf (8 * p + g) = 0 ∧ wt (8 * p + g) % 1024 = 1) ∧ ∀ e, 0 ≤ e → e ≤ 4 → bw e % 1024 = 0
theorem W1_E {L bw wt lf : Int → Int} (hL : GW L) (hB : WB L bw wt lf 1) (h1 : W1 L bw wt lf) {v u w : Int} (h : cEd L bw wt lf 1 v u w) : 1 ≤ w ∧ w % 1024 = 1 := by
  refine ⟨(cEd_b hL hB h).2.2.1, ?_⟩
  obtain ⟨p, g, g', l, ip, hg, hg', l0, hb, hw, hl, hbd, e1, e2, e3⟩ := h
  have a := (h1.1 p g ip hg.1 hg.2 hw).2
  have ee := eig_b hg.1 hg.2 hg'.1 hg'.2
  have b := h1.2 _ ee.1 ee.2
  omega
theorem W1_B {L bw wt lf : Int → Int} (h1 : W1 L bw wt lf) {goal v b : Int} (h : cBs L wt lf 1 goal v b) : b % 1024 = 1 := by
  obtain ⟨p, g, ip, g0, g1, hb, hw, hl, e1, e2⟩ := h
  rw [e2]
  exact (h1.1 p g ip g0 g1 hw).2
theorem lab_wt {L bw wt lf D : Int → Int} {goal : Int} (hL : GW L) (hD : Lab 1000000000 (fun v : Int => 0 ≤ v ∧ v < (648 : Nat)) (cBs L wt lf 1 goal) (cEd L bw wt lf 1) D) (hB : WB L bw wt lf 1) {p g : Int} (hp : inP L p) (g0 : 0 ≤ g) (g1 : g < 8) (hf : D (8 * p + g) < 1000000000) : wt (8 * p + g) ≠ -1 := by
  have hp2 := hp.b hL
  rcases hD.2.1 (8 * p + g) ⟨by omega, by omega⟩ hf with ⟨p', g', ip, g0', g1', hb, hw, hl, e1, e2⟩ | ⟨u, w, _, ⟨p', g', g'', l, ip, hg, hg', l0, hb, hw, hl, hbd, e1, e2, e3⟩, _⟩
  · have a := (hB.2.2 p' g' ip g0' g1').resolve_left hw
    have : p' = p ∧ g' = g := by have := ip.b hL; omega
    rw [← this.1, ← this.2]
    exact hw
  · have a := (hB.2.2 p' g' ip hg.1 hg.2).resolve_left hw
    have : p' = p ∧ g' = g := by have := ip.b hL; omega
    rw [← this.1, ← this.2]
    exact hw
/-- what is left behind a step, by the next steps -/
theorem lab_nxtC {L bw wt lf D : Int → Int} {goal p g : Int} (hL : GW L) (hB : WB L bw wt lf 1) (h1 : W1 L bw wt lf) (hD : Lab 1000000000 (fun v : Int => 0 ≤ v ∧ v < (648 : Nat)) (cBs L wt lf 1 goal) (cEd L bw wt lf 1) D) (hp : inP L p) (g0 : 0 ≤ g) (g1 : g < 8) (hw : wt (8 * p + g) ≠ -1) (hf : D (8 * p + g) < 1000000000) (hq : bs L p g ≠ goal) : (∃ g', (0 ≤ g' ∧ g' < 8) ∧ CnC L wt D (bs L p g) g g' ∧ cvC bw D (bs L p g) g g' = D (8 * p + g) - wt (8 * p + g)) ∧ ∀ g', 0 ≤ g' → g' < 8 → CnC L wt D (bs L p g) g g' → D (8 * p + g) - wt (8 * p + g) ≤ cvC bw D (bs L p g) g g' := by
  have hp2 := hp.b hL
  have hwb := (hB.2.2 p g hp g0 g1).resolve_left hw
  have iq := bs_in hwb.1
  have iq2 := iq.b hL
  have lf0 := (h1.1 p g hp g0 g1 hw).1
  have up' : ∀ g', 0 ≤ g' → g' < 8 → CnC L wt D (bs L p g) g g' → D (8 * p + g) - wt (8 * p + g) ≤ cvC bw D (bs L p g) g g' := by
    intro g' g0' g1' hc
    have := hD.1.2 (8 * p + g) (8 * bs L p g + g') (wt (8 * p + g) + bw (eig g g')) ⟨p, g, g', 0, hp, ⟨g0, g1⟩, ⟨g0', g1'⟩, by decide, hwb.1, hw, by omega, hc.2.1 (by omega), by omega, by omega, rfl⟩ hc.2.2
    unfold cvC
    rw [if_neg (by omega)]
    omega
  refine ⟨?_, up'⟩
  rcases hD.2.1 (8 * p + g) ⟨by omega, by omega⟩ hf with ⟨p', g', ip, g0', g1', hb, hw', hl, e1, e2⟩ | ⟨u, w, hu, ⟨p', g', g'', l, ip, hg, hg', l0, hb, hw', hl, hbd, e1, e2, e3⟩, hfu, hle⟩
  · exfalso
    have a := h1.1 p' g' ip g0' g1' hw'
    have : p' = p ∧ g' = g := by have := ip.b hL; omega
    rw [this.1, this.2] at hb
    exact hq hb
  · have a := h1.1 p' g' ip hg.1 hg.2 hw'
    have hpg : p' = p ∧ g' = g := by have := ip.b hL; omega
    obtain ⟨rfl, rfl⟩ := hpg
    have el : l = 0 := by omega
    subst el
    have eu : u = 8 * bs L p' g' + g'' := by omega
    subst eu
    have hc : CnC L wt D (bs L p' g') g' g'' := ⟨lab_wt hL hD hB iq hg'.1 hg'.2 hfu, fun _ => hbd, hfu⟩
    refine ⟨g'', hg', hc, ?_⟩
    have b := up' g'' hg'.1 hg'.2 hc
    unfold cvC at b ⊢
    rw [if_neg (by omega)] at b ⊢
    omega
def WkP (L bw wt lf : Int → Int) (from_ to_ n : Int) (P : Int → Int) : Prop := ∀ D, Lab 1000000000 (fun v : Int => 0 ≤ v ∧ v < (648 : Nat)) (cBs L wt lf 1 to_) (cEd L bw wt lf 1) D → ((n = 0 ∧ ∀ g, 0 ≤ g → g < 8 → ¬ CnC L wt D from_ (-1) g) ∨ ((1 ≤ n ∧ n ≤ 649) ∧ WayP L (CnC L wt D) (cvC bw D) from_ to_ (n - 1) P))
theorem t_W_walk {K : zS → Prop} {σ : zS} {L bw wt lf : Int → Int} {from_ to_ : Int} (hG : GS L bw wt lf 1 σ) (hB : WB L bw wt lf 1) (h1 : W1 L bw wt lf) (hL : GW L) (ifr : inP L from_) (ito : inP L to_) (hb : ∀ v : Int, 0 ≤ v → v < 648 → 0 ≤ σ 22 v ∧ σ 22 v ≤ 1000000000) (hS : ∀ D, Lab 1000000000 (fun v : Int => 0 ≤ v ∧ v < (648 : Nat)) (cBs L wt lf 1 to_) (cEd L bw wt lf 1) D → SrP 648 from_ D (σ 22)) (h : ∀ τ, zQ [15, 25] σ τ → (∀ k, k ≠ 13 → τ 15 k = σ 15 k) → (0 ≤ τ 15 13 ∧ τ 15 13 ≤ 649) → (∀ k, 0 ≤ k → k < τ 15 13 → inP L (τ 25 k)) → WkP L bw wt lf from_ to_ (τ 15 13) (τ 25) → K τ) : q_W_walk from_ to_ K σ := by
  have ifr2 := ifr.b hL
  unfold q_W_walk
  intro s1 e1
  have q1 : zQ [15, 25] σ s1 := by rw [e1]; exact zQ_U (by decide)
  have f15 : ∀ k, k ≠ 13 → s1 15 k = σ 15 k := fun k hk => by rw [e1, zU_k hk]
  have e22 : s1 22 = σ 22 := by rw [e1, zU_row (by decide)]
  refine t_W_leastKey (ly := 1) (by rw [f15 12 (by decide)]; exact hG.2.2.1) (by decide) ifr2 (by rw [e22]; exact fun v a b => hb v a (by omega)) (fun m hm => ?_)
  rw [e22] at hm
  obtain ⟨m0, m1, hm1, hm2⟩ := hm
  -- what the labels say of the least key
  have hlab : ∀ D, Lab 1000000000 (fun v : Int => 0 ≤ v ∧ v < (648 : Nat)) (cBs L wt lf 1 to_) (cEd L bw wt lf 1) D → (m = 1000000000 → ∀ g, 0 ≤ g → g < 8 → ¬ CnC L wt D from_ (-1) g) ∧ (m ≠ 1000000000 → (∃ κ, m ≤ κ ∧ ∀ v : Int, 0 ≤ v → v < 648 → D v ≤ κ → σ 22 v = D v) ∧ (∃ g, (0 ≤ g ∧ g < 8) ∧ CnC L wt D from_ (-1) g ∧ cvC bw D from_ (-1) g = m) ∧ (∀ g, 0 ≤ g → g < 8 → CnC L wt D from_ (-1) g → m ≤ cvC bw D from_ (-1) g) ∧ 1 ≤ m % 1024 ∧ m % 1024 ≤ 648) := by
    intro D hD
    obtain ⟨hlo, hs⟩ := hS D hD
    have hκ : ∃ κ, m ≤ κ ∧ (m = 1000000000 → κ = 1000000000 ∧ ∀ v : Int, 0 ≤ v → v < 648 → σ 22 v = D v) ∧ ∀ v : Int, 0 ≤ v → v < 648 → D v ≤ κ → σ 22 v = D v := by
      rcases hs with q | ⟨x, hx, hxs, hxf, hxe⟩
      · exact ⟨1000000000, m1, fun _ => ⟨rfl, q⟩, fun v v0 v1 _ => q v v0 v1⟩
      · have hx1 := hm1 0 (x % 8) (by decide) (by decide) (by omega) (by omega)
        rw [show 0 * 648 + (8 * from_ + x % 8) = x by omega] at hx1
        have := hxe x hx.1 hx.2 (Int.le_refl _)
        exact ⟨D x, by omega, fun e => by omega, hxe⟩
    obtain ⟨κ, k1, k2, k3⟩ := hκ
    constructor
    · intro e g g0 g1 hc
      have a := (k2 e).2 (8 * from_ + g) (by omega) (by omega)
      have b := hm1 0 g (by decide) (by decide) g0 g1
      rw [show 0 * 648 + (8 * from_ + g) = 8 * from_ + g by omega] at b
      have := hc.2.2
      omega
    · intro e
      obtain ⟨l, g, hl, hg, em⟩ := hm2.resolve_left e
      rw [show l * 648 + (8 * from_ + g) = 8 * from_ + g by omega] at em
      have lo := hlo (8 * from_ + g) (by omega) (by omega)
      have eD := k3 (8 * from_ + g) (by omega) (by omega) (by omega)
      have hf : D (8 * from_ + g) < 1000000000 := by omega
      have hc : CnC L wt D from_ (-1) g := ⟨lab_wt hL hD hB ifr hg.1 hg.2 hf, fun q => absurd rfl q, hf⟩
      have low := lab_low (fun v u w hw => W1_E hL hB h1 hw) (fun v b hb => W1_B h1 hb) hD (8 * from_ + g) (by omega) (by omega) hf
      refine ⟨⟨κ, k1, k3⟩, ⟨g, hg, hc, ?_⟩, fun g' g0 g1 hc' => ?_, by omega, by omega⟩
      · unfold cvC
        rw [if_pos rfl]
        omega
      · unfold cvC
        rw [if_pos rfl]
        have b := hm1 0 g' (by decide) (by decide) g0 g1
        rw [show 0 * 648 + (8 * from_ + g') = 8 * from_ + g' by omega] at b
        by_cases q : D (8 * from_ + g') ≤ κ
        · have := k3 _ (by omega) (by omega) q
          omega
        · omega
  refine ⟨fun c s5 e5 s6 e6 => ?_, fun c => h s1 q1 f15 (by rw [e1, zU_s]; decide) (fun k k0 k1 => by rw [e1, zU_s] at k1; omega) (fun D hD => Or.inl ⟨by rw [e1, zU_s], (hlab D hD).1 c⟩)⟩
  refine ⟨fun key p hd k s => zQ [15, 25] σ s ∧ (∀ j, j ≠ 13 → s 15 j = σ 15 j) ∧ 1 ≤ k ∧ k ≤ 649 ∧ s 15 13 = k ∧ (hd = -1 ∨ (0 ≤ hd ∧ hd < 8)) ∧ -2000000 ≤ key ∧ key < 1000000000 ∧ (∀ j, 0 ≤ j → j < k → inP L (s 25 j)) ∧ s 25 0 = from_ ∧ s 25 (k - 1) = p ∧ ∀ D, Lab 1000000000 (fun v : Int => 0 ≤ v ∧ v < (648 : Nat)) (cBs L wt lf 1 to_) (cEd L bw wt lf 1) D → (∀ j, 0 ≤ j → j < k - 1 → s 25 j ≠ to_) ∧ (∃ H : Int → Int, H 0 = -1 ∧ H (k - 1) = hd ∧ ∀ j, 0 ≤ j → j < k - 1 → BstG L (CnC L wt D) (cvC bw D) (s 25 j) (H j) (H (j + 1)) ∧ s 25 (j + 1) = bs L (s 25 j) (H (j + 1))) ∧ (p ≠ to_ → (∃ κ, key ≤ κ ∧ ∀ v : Int, 0 ≤ v → v < 648 → D v ≤ κ → σ 22 v = D v) ∧ (∃ g, (0 ≤ g ∧ g < 8) ∧ CnC L wt D p hd g ∧ cvC bw D p hd g = key) ∧ (∀ g, 0 ≤ g → g < 8 → CnC L wt D p hd g → key ≤ cvC bw D p hd g) ∧ 1 ≤ key % 1024 ∧ k - 1 + key % 1024 ≤ 648), fun _ _ _ k _ => (649 - k).toNat, ⟨?_, fun j hj => ?_, by decide, by decide, ?_, Or.inl rfl, by omega, by omega, fun j j0 j1 => ?_, ?_, ?_, fun D hD => ⟨fun j j0 j1 => by omega, ⟨fun _ => -1, rfl, rfl, fun j j0 j1 => by omega⟩, fun _ => ?_⟩⟩, ?_⟩
  · rw [e6, e5]; exact zQ_t q1 (zQ_t (zQ_U (by decide)) (zQ_U (by decide)))
  · rw [e6, zU_k hj, e5, zU_row (by decide)]; exact f15 j hj
  · rw [e6, zU_s]
  · rw [show j = 0 by omega, e6, zU_o (by decide), e5, zU_s]; exact ifr
  · rw [e6, zU_o (by decide), e5, zU_s]
  · rw [e6, zU_o (by decide), e5]
    exact zU_s _ _ _ _
  · have a := (hlab D hD).2 c
    exact ⟨a.1, a.2.1, a.2.2.1, a.2.2.2.1, by omega⟩
  rintro key p hd k s ⟨hq, hf15, k1, k649, ek, hhd, key0, key1, hin, p0, pk, hI⟩ - - - -
  have hps : inP L p := by rw [← pk]; exact hin (k - 1) (by omega) (by omega)
  have hGs : GS L bw wt lf 1 s := by
    obtain ⟨a1, a2, a3, a4, a5, a6, a7⟩ := hG
    refine ⟨CC_Q a1 hq (by decide), ?_, ?_, ?_, ?_, ?_, ?_⟩
    · rw [hf15 11 (by decide)]; exact a2
    · rw [hf15 12 (by decide)]; exact a3
    · rw [hq 19 (by decide)]; exact a4
    · rw [hq 18 (by decide)]; exact a5
    · rw [hq 16 (by decide)]; exact a6
    · rw [hq 17 (by decide)]; exact a7
  have s22 : s 22 = σ 22 := hq 22 (by decide)
  have s16 : s 16 = wt := hGs.2.2.2.2.2.1
  have post : (p ≠ to_ → ∀ D, Lab 1000000000 (fun v : Int => 0 ≤ v ∧ v < (648 : Nat)) (cBs L wt lf 1 to_) (cEd L bw wt lf 1) D → False) → K s := fun hno => by
    refine h s hq hf15 (by omega) (fun j j0 j1 => hin j j0 (by omega)) (fun D hD => ?_)
    have pe : p = to_ := by
      by_cases q : p = to_
      · exact q
      · exact (hno q D hD).elim
    obtain ⟨i1, ⟨H, H0, Hk, HH⟩, -⟩ := hI D hD
    refine Or.inr ⟨by omega, ?_⟩
    rw [ek]
    exact ⟨p0, by rw [pk]; exact pe, by omega, i1, H, H0, HH⟩
  refine ⟨fun c => post (fun hpt D hD => ?_), fun c => ⟨fun e => post (fun q => absurd e q), fun hpt => ?_⟩⟩
  · have := (hI D hD).2.2 hpt
    omega
  · refine t_W_firstHeading hGs hB hL hps hhd (by rw [s22]; exact hb) (fun b hbst => ?_)
    rw [s22] at hbst
    -- equality with the labels
    have hiff : ∀ D, Lab 1000000000 (fun v : Int => 0 ≤ v ∧ v < (648 : Nat)) (cBs L wt lf 1 to_) (cEd L bw wt lf 1) D → ∀ g, 0 ≤ g → g < 8 → (FhS L bw wt (σ 22) p hd key g ↔ (CnC L wt D p hd g ∧ cvC bw D p hd g = key)) := by
      intro D hD g g0 g1
      obtain ⟨-, -, hP⟩ := hI D hD
      obtain ⟨⟨κ, k1, k2⟩, ⟨g', hg', hc', hv'⟩, -⟩ := hP hpt
      have hp2 := hps.b hL
      have bwb : 0 ≤ (if hd = -1 then 0 else bw (eig hd g)) := by
        split
        · omega
        · have ee := eig_b (hhd.resolve_left (by assumption)).1 (hhd.resolve_left (by assumption)).2 g0 g1
          exact (hB.2.1 _ ee.1 ee.2).1
      have bwb' : 0 ≤ (if hd = -1 then 0 else bw (eig hd g')) ∧ (if hd = -1 then 0 else bw (eig hd g')) ≤ 101376 := by
        split
        · omega
        · have ee := eig_b (hhd.resolve_left (by assumption)).1 (hhd.resolve_left (by assumption)).2 hg'.1 hg'.2
          exact hB.2.1 _ ee.1 ee.2
      have lo := (hS D hD).1 (8 * p + g) (by omega) (by omega)
      constructor
      · rintro ⟨f1, f2, f3⟩
        have e := k2 (8 * p + g) (by omega) (by omega) (by omega)
        have hfin : D (8 * p + g) < 1000000000 := by omega
        exact ⟨⟨f1, f2, hfin⟩, by unfold cvC; omega⟩
      · rintro ⟨⟨f1, f2, f3⟩, f4⟩
        unfold cvC at f4
        have e := k2 (8 * p + g) (by omega) (by omega) (by omega)
        exact ⟨f1, f2, by omega⟩
    refine ⟨fun nb x17 e17 => ?_, fun nb => post (fun _ D hD => ?_)⟩
    · have hbb := hbst.resolve_left (fun q => nb q.1)
      obtain ⟨hbr, hbS, hbl⟩ := hbb
      have hp2 := hps.b hL
      rw [Int.mul_comm] at e17
      subst e17
      have hw := (hB.2.2 p b hps hbr.1 hbr.2).resolve_left hbS.1
      have w1 := h1.1 p b hps hbr.1 hbr.2 hbS.1
      have hkb := hb (8 * p + b) (by omega) (by omega)
      unfold q_H_key
      refine ⟨zRi (by omega) (by omega), by omega, by omega, fun x23 e23 => t_L_besideOf hGs.1 hL hps hbr ⟨by omega, fun s27 e27 => ⟨zRi (by omega) (by omega), fun s29 e29 => ?_⟩⟩⟩
      rw [s22, s16] at e23
      have k25 : ∀ j, s29 25 j = if j = k then bs L p b else s 25 j := fun j => by rw [e29, zU_o (by decide), e27, zU_if]
      have iq := bs_in hw.1
      have iq2 := iq.b hL
      refine ⟨⟨?_, fun j hj => ?_, by omega, by omega, ?_, Or.inr hbr, by omega, by omega, fun j j0 j1 => ?_, ?_, ?_, fun D hD => ?_⟩, zRi (by omega) (by omega), by dsimp only; omega⟩
      · rw [e29, e27]; exact zQ_t hq (zQ_t (zQ_U (by decide)) (zQ_U (by decide)))
      · rw [e29, zU_k hj, e27, zU_row (by decide)]; exact hf15 j hj
      · rw [e29, zU_s]
      · rw [k25]
        split
        · exact iq
        · exact hin j j0 (by omega)
      · rw [k25, if_neg (by omega)]; exact p0
      · rw [k25, if_pos (by omega)]
      · obtain ⟨i1, ⟨H, H0, Hk, HH⟩, i3⟩ := hI D hD
        obtain ⟨⟨κ, c1, c2⟩, -, i5, i6, i7⟩ := i3 hpt
        have hcb := (hiff D hD b hbr.1 hbr.2).mp hbS
        have hbst' : BstG L (CnC L wt D) (cvC bw D) p hd b := by
          refine ⟨hbr, hcb.1, fun g g0 g1 hc => ?_⟩
          have a := i5 g g0 g1 hc
          by_cases e : cvC bw D p hd g = key
          · exact Or.inr ⟨by omega, hbl g g0 g1 ((hiff D hD g g0 g1).mpr ⟨hc, e⟩)⟩
          · exact Or.inl (by omega)
        have eD : σ 22 (8 * p + b) = D (8 * p + b) := by
          have a := hbS.2.2
          have b' := hcb.2
          unfold cvC at b'
          omega
        have bend0 : (if hd = -1 then 0 else bw (eig hd b)) % 1024 = 0 ∧ 0 ≤ (if hd = -1 then 0 else bw (eig hd b)) := by
          split
          · omega
          · have ee := eig_b (hhd.resolve_left (by assumption)).1 (hhd.resolve_left (by assumption)).2 hbr.1 hbr.2
            exact ⟨h1.2 _ ee.1 ee.2, (hB.2.1 _ ee.1 ee.2).1⟩
        have hbv := hbS.2.2
        refine ⟨fun j j0 j1 => ?_, ⟨fun j => if j = k then b else H j, ?_, ?_, fun j j0 j1 => ?_⟩, fun hqt => ?_⟩
        · rw [k25, if_neg (by omega)]
          by_cases e : j = k - 1
          · rw [e, pk]; exact hpt
          · exact i1 j j0 (by omega)
        · dsimp only
          rw [if_neg (by omega)]; exact H0
        · dsimp only
          rw [if_pos (by omega)]
        · dsimp only
          rw [k25, if_neg (by omega), k25, if_neg (show ¬ j = k by omega)]
          by_cases e : j = k - 1
          · rw [if_pos (by omega), if_pos (by omega), e, pk, Hk]
            exact ⟨hbst', rfl⟩
          · rw [if_neg (by omega), if_neg (by omega)]
            exact HH j j0 (by omega)
        · obtain ⟨⟨g', hg', hc', hv'⟩, n2⟩ := lab_nxtC hL hB h1 hD hps hbr.1 hbr.2 hbS.1 hcb.1.2.2 hqt
          rw [← eD, ← e23] at hv' n2
          have low := lab_low (fun v u w hw => W1_E hL hB h1 hw) (fun v b hb => W1_B h1 hb) hD (8 * bs L p b + g') (by omega) (by omega) hc'.2.2
          have ee := eig_b hbr.1 hbr.2 hg'.1 hg'.2
          have be := h1.2 _ ee.1 ee.2
          have hv2 : x23 = D (8 * bs L p b + g') + bw (eig b g') := by
            rw [← hv']
            unfold cvC
            rw [if_neg (by omega)]
          refine ⟨⟨κ, by omega, c2⟩, ⟨g', hg', hc', hv'⟩, n2, by omega, by omega⟩
    · have := (hI D hD).2.2 hpt
      obtain ⟨-, ⟨g, hg, hc, hv⟩, -⟩ := this
      have hno := hbst.resolve_right (fun q => by have := q.1.1; omega)
      exact hno.2 g hg.1 hg.2 ((hiff D hD g hg.1 hg.2).mpr ⟨hc, hv⟩)
