/-! ===== reach, grade ===== -/
theorem PR_gs {L C : Int → Int} {kind n bo : Int} {τ : zS} (hc : CC L τ) (h : PR L C kind n bo τ) : GS L (bwk L kind) (τ 16) (τ 17) 1 τ := by
  obtain ⟨h1, h2, h3, h4, h5⟩ := h
  exact ⟨hc, h1, h2, h3, h4, rfl, rfl⟩
theorem GW_up2 {L : Int → Int} {n : Int} (hL : GW L) (h0 : 1 ≤ n) (h1 : n ≤ 99) : GW (up L 2 n) := by
  have o : ∀ j, j ≠ 2 → up L 2 n j = L j := fun j hj => up_o hj
  obtain ⟨a1, a2, a3, a4⟩ := hL
  refine ⟨by rw [o 0 (by decide), o 1 (by decide)]; exact a1, ?_, fun p p0 p1 => by rw [o _ (by omega)]; exact a3 p p0 p1, fun p p0 p1 => by rw [o _ (by omega)]; exact a4 p p0 p1⟩
  rw [up_s, o 3 (by decide), o 4 (by decide), o 5 (by decide), o 6 (by decide), o 7 (by decide), o 8 (by decide), o 9 (by decide), o 10 (by decide), o 11 (by decide), o 12 (by decide)]
  exact ⟨h0, h1, a2.2.2⟩
theorem bs_lo {L : Int → Int} (p g : Int) : -1 ≤ bs L p g := by
  rcases bs_or (L := L) p g with h | h
  · omega
  · have := h.2.1
    omega
theorem up2_bs {L : Int → Int} {n : Int} (p g : Int) : bs (up L 2 n) p g = bs L p g := by
  show bes _ _ _ _ = bes _ _ _ _
  rw [up_o (by decide), up_o (by decide)]
theorem up2_dif {L : Int → Int} {n p q : Int} (hp : -1 ≤ p) (hq : -1 ≤ q) : dif (up L 2 n) p q = dif L p q := by
  unfold dif
  rw [up_o (by omega), up_o (by omega)]
theorem Sty_up2 {L : Int → Int} {n A B p g : Int} (hp : 0 ≤ p) : Sty (up L 2 n) A B p g ↔ (Opn L A B p g ∧ ¬ StG L n p g) := by
  have b1 := bs_lo (L := L) p g
  have b2 := bs_lo (L := L) p (g - 1)
  have b3 := bs_lo (L := L) p ((g + 1) % 8)
  unfold Sty Opn Steep StG
  rw [up2_bs, up2_bs, up2_bs, up_s, up2_dif (by omega) b1, up_o (by omega), up_o (by omega), up_o (by omega), up_o (by omega)]
theorem Bnd_up2 {L : Int → Int} {n p g h : Int} (hp : 0 ≤ p) : Bnd (up L 2 n) p g h ↔ Bnd L p g h := by
  unfold Bnd Flt
  rw [up_o (show (3 : Int) ≠ 2 by decide), up_o (show (4 : Int) ≠ 2 by decide)]
  refine or_congr Iff.rfl ⟨fun f x x0 x1 hb => ?_, fun f x x0 x1 hb => ?_⟩
  · have := f x x0 x1 (by rw [up2_bs]; exact hb)
    rw [up2_bs, up2_dif (by omega) (bs_lo _ _)] at this
    exact this
  · rw [up2_bs] at hb ⊢
    rw [up2_dif (by omega) (bs_lo _ _)]
    exact f x x0 x1 hb
theorem NRn_mono' {L M wt wt' : Int → Int} {fr : Int} (e0 : M 0 = L 0) (e1 : M 1 = L 1) (hB : ∀ p g h, 0 ≤ p → Bnd L p g h → Bnd M p g h) (hw : ∀ p g, inP L p → 0 ≤ g → g < 8 → wt (8 * p + g) ≠ -1 → wt' (8 * p + g) ≠ -1) : ∀ n p g, inP L p → (0 ≤ g ∧ g < 8) → NRn L wt fr n p g → NRn M wt' fr n p g := by
  have ip : ∀ p, inP M p ↔ inP L p := fun p => by unfold inP; rw [e0, e1]
  have eb : ∀ p g, bs M p g = bs L p g := fun p g => by show bes _ _ _ _ = bes _ _ _ _; rw [e0, e1]
  intro n
  induction n with
  | zero => exact fun p g i hg h => ⟨h.1, hw p g i hg.1 hg.2 h.2⟩
  | succ n ih =>
    intro p g i hg h
    rcases h with h | ⟨p0, g0, i0, hg0, hr, ep, hwt, bd⟩
    · exact Or.inl (ih p g i hg h)
    · exact Or.inr ⟨p0, g0, (ip p0).mpr i0, hg0, ih p0 g0 i0 hg0 hr, by rw [eb]; exact ep, hw p g i hg.1 hg.2 hwt, hB p g0 g i.1 bd⟩
/-- the nodes reached, told for another land that has the same steps -/
theorem Thr_of {L M wt : Int → Int} {A B fr q : Int} (e0 : M 0 = L 0) (e1 : M 1 = L 1) (hB : ∀ p g h, 0 ≤ p → (Bnd L p g h ↔ Bnd M p g h)) (hw : ∀ p g, inP L p → 0 ≤ g → g < 8 → (wt (8 * p + g) ≠ -1 ↔ Sty M A B p g)) : (∃ p g, inP L p ∧ (0 ≤ g ∧ g < 8) ∧ NR L wt fr p g ∧ bs L p g = q) ↔ Thr M A B fr q := by
  have ip : ∀ p, inP M p ↔ inP L p := fun p => by unfold inP; rw [e0, e1]
  have eb : ∀ p g, bs M p g = bs L p g := fun p g => by show bes _ _ _ _ = bes _ _ _ _; rw [e0, e1]
  constructor
  · rintro ⟨p, g, i, hg, ⟨n, hr⟩, e⟩
    exact ⟨p, g, (ip p).mpr i, hg, ⟨n, NRn_mono' e0 e1 (fun p g h p0 => (hB p g h p0).mp) (fun p g i g0 g1 w => (wS_at g0 g1).mpr ((hw p g i g0 g1).mp w)) n p g i hg hr⟩, by rw [eb]; exact e⟩
  · rintro ⟨p, g, i, hg, ⟨n, hr⟩, e⟩
    exact ⟨p, g, (ip p).mp i, hg, ⟨n, NRn_mono' e0.symm e1.symm (fun p g h p0 => (hB p g h p0).mpr) (fun p g i g0 g1 w => (hw p g ((ip p).mp i) g0 g1).mpr ((wS_at g0 g1).mp w)) n p g i hg hr⟩, by rw [← eb]; exact e⟩
theorem wgt_ne {L C : Int → Int} (hL : GW L) (hC : CB L C) {kind n p g : Int} (hp : inP L p) : wgt L C kind n 0 p g ≠ -1 ↔ (Opn L (-1) (-1) p g ∧ ¬ StG L n p g) := by
  unfold wgt
  by_cases o : Opn L (-1) (-1) p g
  · have k := kst_b (kind := kind) hL hC hp o.1
    rw [cif_t o]
    by_cases s : StG L n p g
    · rw [cif_t s, if_pos rfl]
      exact ⟨fun x => absurd rfl x, fun x => absurd s x.2⟩
    · rw [cif_f s, if_pos rfl]
      exact ⟨fun _ => ⟨o, s⟩, fun _ => by omega⟩
  · rw [cif_f o]
    exact ⟨fun x => absurd rfl x, fun x => absurd x.1 o⟩
/-- prepare by steps, and spread -/
theorem t_W_prsp {K : Int → zS → Prop} {σ : zS} {L : Int → Int} {n fr to_ : Int} (hc : CC L σ) (hL : GW L) (hW : RWs L) (hn : 0 ≤ n ∧ n ≤ 99) (hfr : inP L fr) (h : ∀ r τ, zQ [12, 13, 15, 16, 17, 18, 19, 20, 26, 27, 29] σ τ → (r = 0 ∨ r = 1) → (r = 1 → to_ ≠ -1 ∧ Thr (up L 2 n) (-1) (-1) fr to_) → (r = 0 → ∀ q, inP L q → (τ 29 q = 0 ∨ τ 29 q = 1) ∧ (τ 29 q = 1 ↔ Thr (up L 2 n) (-1) (-1) fr q) ∧ (q = to_ → τ 29 q = 0)) → K r τ) : q_W_prepare 3 n 0 (fun σ1 => q_W_spread fr to_ K σ1) σ := by
  refine t_W_prepare hc hL hW (by decide) hn (fun τ q _ hP => ?_)
  have hcτ := CC_Q hc q (by decide)
  have hw : ∀ p g, inP L p → 0 ≤ g → g < 8 → (τ 16 (8 * p + g) ≠ -1 ↔ Sty (up L 2 n) (-1) (-1) p g) := fun p g ip g0 g1 => by
    rw [(hP.2.2.2.2 p g ip g0 g1).1, wgt_ne hL (catL_CB hL) ip, Sty_up2 ip.1]
  have to := fun q => Thr_of (L := L) (M := up L 2 n) (wt := τ 16) (A := -1) (B := -1) (fr := fr) (q := q) (up_o (by decide)) (up_o (by decide)) (fun p g h p0 => (Bnd_up2 p0).symm) hw
  refine t_W_spread (PR_gs hcτ hP) hL (fun p g ip g0 g1 w => ?_) hfr (fun r τ' q' hS => h r τ' (zQ_t (zQ_m q (by decide)) (zQ_m q' (by decide))) hS.1 (fun e => ⟨(hS.2.1 e).1, (to to_).mp (hS.2.1 e).2⟩) (fun e q iq => ?_))
  · have := ((Sty_up2 ip.1).mp ((hw p g ip g0 g1).mp w)).1.1
    exact this
  · obtain ⟨a, b, c⟩ := hS.2.2 e q iq
    exact ⟨a, b.trans (to q), c⟩
theorem t_N_isWay {K : Int → zS → Prop} {σ : zS} {L : Int → Int} {n fr to_ : Int} (hc : CC L σ) (hL : GW L) (hW : RWs L) (hn : 0 ≤ n ∧ n ≤ 99) (hfr : inP L fr) (hto : inP L to_) (hT : Thr (up L 2 n) (-1) (-1) fr to_ → ∀ τ, zQ [12, 13, 15, 16, 17, 18, 19, 20, 26, 27, 29] σ τ → K 1 τ) (hF : ¬ Thr (up L 2 n) (-1) (-1) fr to_ → ∀ τ, zQ [12, 13, 15, 16, 17, 18, 19, 20, 26, 27, 29] σ τ → K 0 τ) : q_N_isWay fr to_ n K σ := by
  unfold q_N_isWay
  refine t_W_prsp hc hL hW hn hfr (fun r τ q hr h1 h0 => ?_)
  rcases hr with e | e
  · rw [e]
    obtain ⟨-, b, c⟩ := h0 e to_ hto
    exact hF (fun x => by have := b.mpr x; have := c rfl; omega) τ q
  · rw [e]
    exact hT (h1 e).2 τ q
theorem up2_self (L : Int → Int) : up L 2 (L 2) = L := by
  funext i
  unfold up
  split
  · rename_i e; rw [e]
  · rfl
noncomputable def rcV (L : Int → Int) (p : Int) (q : Nat) : Int := if (q : Int) = p then 0 else cif (Thr L (-1) (-1) p q) 1 0
theorem pr_reach {σ : zS} {p : Int} (hi : INV σ) : q_A_reach p (fun r u => q_M_reach p (fun v w => Agr r v w) u) σ := by
  obtain ⟨L, hc, hm, hl, -⟩ := id hi
  have hn := hl.n
  unfold q_A_reach q_R_reach
  refine t_R_needPlace hc hn (fun i => ?_) (fun ni => ⟨rfl, ?_⟩)
  · obtain ⟨hL, hW⟩ := hl.gw i
    have hgn := hL.n
    have t2 : 0 ≤ L 2 ∧ L 2 ≤ 99 := by have := hL.2.1; omega
    unfold q_N_reached
    refine t_L_value (v := 2) hc (by decide) rfl (t_W_prsp hc hL hW t2 i (fun r τ q hr h1 h0 => ?_))
    have r0 : r = 0 := hr.resolve_right (fun e => (h1 e).1 rfl)
    have h29 := h0 r0
    have hcτ := CC_Q hc q (by decide)
    rw [up2_self] at h29
    refine ⟨fun x y s => s = τ ∧ 0 ≤ y ∧ y ≤ L 0 * L 1 ∧ x = smI (rcV L p) y.toNat ∧ 0 ≤ x ∧ x ≤ y, fun _ y _ => (81 - y).toNat, ⟨rfl, by decide, by omega, rfl, by decide, by decide⟩, ?_⟩
    rintro x y s ⟨rfl, y0, y1, hx, x0, x1⟩ - -
    have nx := smI_i (rcV L p) y0
    have ey : ((y.toNat : Nat) : Int) = y := Int.toNat_of_nonneg y0
    refine t_L_places hcτ (by omega) ⟨fun d => ?_, fun d => ⟨fun ne => ⟨⟨y0, by omega⟩, fun x15 e15 => ⟨⟨rfl, by omega, by omega, ?_, ?_, ?_⟩, zRi ?_ ?_, zRi (by omega) (by omega), by dsimp only; omega⟩⟩, fun e x19 e19 => ⟨⟨rfl, by omega, by omega, ?_, by omega, by omega⟩, zRi (by omega) (by omega), zRi (by omega) (by omega), by dsimp only; omega⟩⟩⟩
    · -- the reference
      have hv : x = smI (rcV L p) (L 0 * L 1).toNat := by rw [hx, show y = L 0 * L 1 by omega]
      have fr : FR σ (zU s 64 0 x) := FR_t (FR_Q q (by decide) (by decide)) (FR_64 x)
      have hmu := FR_MM fr hm
      unfold q_M_reach
      refine t_M_isPlace hmu hn (fun _ => ⟨fun w => w = 0, fun w hw _ s4 e4 => ?_, n1a rfl⟩) (fun z => absurd i z)
      subst hw
      have z0 : s4 41 0 = 0 := by rw [e4, zU_s]
      rw [z0]
      refine ⟨fun _ => t_M_goesFrom (by rw [e4]; exact MM_F hmu (by decide)) hL hW.rb i (fun t qt hb hLab => ?_), fun z => absurd z (by decide)⟩
      have hmt : MM L (-1) (-1) t := by
        refine MM_Q ?_ qt (by decide)
        rw [e4]
        exact MM_F hmu (by decide)
      refine ⟨fun x y s' => s' = t ∧ 0 ≤ y ∧ y ≤ L 0 * L 1 ∧ x = smI (rcV L p) y.toNat ∧ 0 ≤ x ∧ x ≤ y, fun _ y _ => (81 - y).toNat, ⟨rfl, by decide, by omega, rfl, by decide, by decide⟩, ?_⟩
      rintro x' y' s' ⟨rfl, y0', y1', hx', x0', x1'⟩ - -
      have nx' := smI_i (rcV L p) y0'
      have ey' : ((y'.toNat : Nat) : Int) = y' := Int.toNat_of_nonneg y0'
      refine t_M_places hmt (by omega) ⟨fun d' => ?_, fun d' => ⟨fun e x15 e15 => ⟨⟨rfl, by omega, by omega, ?_, by omega, by omega⟩, zRi (by omega) (by omega), zRi (by omega) (by omega), by dsimp only; omega⟩, fun ne => ?_⟩⟩
      · have e : x' = x := by rw [hx', hv, show y' = L 0 * L 1 by omega]
        rw [e]
        refine Agr_0 hi (FR_t fr (FR_t ?_ (FR_Q qt (by decide) (by decide)))) (by rw [qt 41 (by decide)]; exact z0) (by rw [qt 64 (by decide), e4, zU_o (by decide), zU_s])
        rw [e4]
        exact FR_F (by decide)
      · rw [nx', ← hx', e15]
        unfold rcV
        rw [ey', if_pos e]
      · have iy : inP L y' := ⟨y0', d'⟩
        have th := Thr_lab hL i hLab iy
        refine t_M_costAt (iy.b hL) (fun v a b => ⟨(hb v a b).1, (hb v a b).2.1⟩) (fun m hmm => ⟨fun ge x22 e22 => ⟨⟨rfl, by omega, by omega, ?_, by omega, by omega⟩, zRi (by omega) (by omega), zRi (by omega) (by omega), by dsimp only; omega⟩, fun lt x26 e26 => ⟨⟨rfl, by omega, by omega, ?_, by omega, by omega⟩, zRi (by omega) (by omega), zRi (by omega) (by omega), by dsimp only; omega⟩⟩)
        · rw [nx', ← hx', e22]
          unfold rcV
          rw [ey', if_neg ne, cif_f]
          intro z
          obtain ⟨h, hh, hf⟩ := th.mpr z
          have := hmm.2.2.1 h hh.1 hh.2
          omega
        · rw [nx', ← hx', e26]
          unfold rcV
          rw [ey', if_neg ne, cif_t]
          refine th.mp ?_
          rcases hmm.2.2.2 with z | ⟨h, hh, z⟩
          · omega
          · exact ⟨h, hh, by omega⟩
    all_goals try
      have iy : inP L y := ⟨y0, d⟩
      have hv := h29 y iy
    · rw [nx, ← hx, e15]
      unfold rcV
      rw [ey, if_neg ne]
      by_cases c : Thr L (-1) (-1) p y
      · rw [cif_t c, hv.2.1.mpr c]
      · rw [cif_f c]
        have : s 29 y ≠ 1 := fun z => c (hv.2.1.mp z)
        omega
    · omega
    · omega
    · omega
    · omega
    · rw [nx, ← hx, e19]
      unfold rcV
      rw [ey, if_pos e]
  · unfold q_M_reach
    refine t_M_isPlace hm hn (fun z => absurd z ni) (fun _ => ⟨fun w => w = 1, fun w hw _ s4 e4 => ?_, n0a rfl⟩)
    subst hw
    have z0 : s4 41 0 = 1 := by rw [e4, zU_s]
    rw [z0]
    refine ⟨fun z => absurd z (by decide), fun _ => ?_⟩
    rw [e4]
    exact Agr_x hi (by decide)
