/-! ===== the reference bores ===== -/
section TG
variable {L : Int → Int} {σ : zS}
def wB (L : Int → Int) (h p g : Int) : Int := if h = -1 then 0 else bcs L h g
def Ok (L : Int → Int) (p h gone mo g : Int) : Prop := Opn L (-1) (-1) p g ∧ (h ≠ -1 → Bnd L p h g) ∧ gone + stp L p g ≤ mo
theorem t_M_bores {K : Int → zS → Prop} {p h gone cost mo : Int} (I : Int → Int → zS → Prop) (hL : GW L) (hR : RB L) (ip : inP L p) (hh : h = -1 ∨ (0 ≤ h ∧ h < 8)) (hg0 : 0 ≤ gone ∧ gone ≤ 3) (hmo : 0 ≤ mo ∧ mo ≤ 3) (hcost : 0 ≤ cost ∧ cost ≤ 3000000) (h0 : I 0 0 σ) (hm : ∀ y g s, I y g s → MM L (-1) (-1) s ∧ (y = 0 ∨ y = 1) ∧ 0 ≤ g ∧ g ≤ 8) (hskip : ∀ y g s, I y g s → g < 8 → ¬ Ok L p h gone mo g → I y (g + 1) s) (hno : ∀ y g s, I y g s → g < 8 → Ok L p h gone mo g → s 53 (32 * bs L p g + 4 * g + (gone + stp L p g)) ≤ cost + (cx L p g + wB L h p g) → I y (g + 1) s) (hyes : ∀ y g s, I y g s → g < 8 → Ok L p h gone mo g → cost + (cx L p g + wB L h p g) < s 53 (32 * bs L p g + 4 * g + (gone + stp L p g)) → I 1 (g + 1) (zU s 53 (32 * bs L p g + 4 * g + (gone + stp L p g)) (cost + (cx L p g + wB L h p g)))) (hend : ∀ y s, I y 8 s → (y = 0 ∨ y = 1) → K y s) : q_M_bores p h gone cost mo K σ := by
  unfold q_M_bores
  refine ⟨I, fun _ g _ => (8 - g).toNat, h0, ?_⟩
  rintro y g s hI - -
  obtain ⟨hms, hy, g0, g8⟩ := hm y g s hI
  refine ⟨fun c => ⟨hy, hend y s (by rw [show g = 8 by omega] at hI; exact hI) hy⟩, fun c => ?_⟩
  have nx : ∀ y' s', I y' (g + 1) s' → I y' (g + 1) s' ∧ zR (g + 1) ∧ (8 - (g + 1)).toNat < (8 - g).toNat := fun y' s' z => ⟨z, zRi (by omega) (by omega), by omega⟩
  refine t_M_isOpen hms hL ip ⟨g0, c⟩ (fun o => n1a ?_) (fun o => n0a (nx _ _ (hskip y g s hI c (fun z => o z.1))))
  have cb := cx_b hL ip o.1
  have so := stp_or L p g
  have iq := (bs_in o.1).b hL
  have wb : 0 ≤ wB L h p g ∧ wB L h p g ≤ 99 := by
    unfold wB
    by_cases e : h = -1
    · rw [if_pos e]; omega
    · rw [if_neg e]
      exact bcs_b hL (by omega) (by omega) g0 c
  refine ⟨fun s' => s' = s ∧ (h ≠ -1 → Bnd L p h g), fun s' hs' => ?_, ?_⟩
  · obtain ⟨rfl, bd⟩ := hs'
    have main : ∀ w, w = stp L p g → ∀ x15 : Int, x15 = gone + w → zR x15 ∧ ((x15 ≤ mo → q_M_stepOf p g 0 (fun r19 σ18 => ∃ J98 : Int → zS → Prop, (∀ (w20 : Int) (σ21 : zS), J98 w20 σ21 → zR w20 → ∃ J116 : Int → Prop, (∀ (w22 : Int), J116 w22 → zR w22 → ∀ x23 : Int, x23 = ((cost + r19) + w20) + w22 → q_M_beside p g (fun r25 σ24 => zR ((8 * r25) + g) ∧ (zR x23 ∧ (q_M_isBorne ((8 * r25) + g) x15 x23 (fun r29 σ28 => (r29 ≠ 0 → I 1 (g + 1) σ28 ∧ zR (g + 1) ∧ (8 - (g + 1)).toNat < (8 - g).toNat) ∧ (r29 = 0 → (y = 0 → I 0 (g + 1) σ28 ∧ zR (g + 1) ∧ (8 - (g + 1)).toNat < (8 - g).toNat) ∧ (y ≠ 0 → I 1 (g + 1) σ28 ∧ zR (g + 1) ∧ (8 - (g + 1)).toNat < (8 - g).toNat))) σ24))) σ21) ∧ ((x15 ≤ gone → J116 0) ∧ (gone < x15 → J116 (σ21 42 8)))) ∧ ((h ≠ (-1) → q_M_bendCost h g (fun r42 σ41 => J98 r42 σ41) σ18) ∧ (h = (-1) → J98 0 σ18))) s') ∧ (mo < x15 → I y (g + 1) s' ∧ zR (g + 1) ∧ (8 - (g + 1)).toNat < (8 - g).toNat)) := by
      intro w ew x15 e15
      refine ⟨zRi (by omega) (by omega), fun le => ?_, fun gt => nx _ _ (hskip y g s' hI c (fun z => by have := z.2.2; omega))⟩
      have ok : Ok L p h gone mo g := ⟨o, bd, by omega⟩
      refine t_M_stepOf (C := fun _ => 0) hms hL hR (CB0 L) (fun e => absurd e (by decide)) (by decide) ip ⟨g0, c⟩ o.1 ?_
      rw [kst0]
      refine ⟨fun v t => t = s' ∧ v = wB L h p g, fun w20 s21 hj _ => ?_, fun ne => t_M_bendCost hms hL (by omega) ⟨g0, c⟩ ⟨rfl, by unfold wB; rw [if_neg ne]⟩, fun e => ⟨rfl, by unfold wB; rw [if_pos e]⟩⟩
      obtain ⟨rfl, e20⟩ := hj
      refine ⟨fun v => v = cx L p g - cst L p g, fun w22 h22 _ x23 e23 => ?_, fun z => ?_, fun z => ?_⟩
      · refine t_M_beside hms hL ip ⟨g0, c⟩ ⟨zRi (by omega) (by omega), zRi (by omega) (by omega), ?_⟩
        unfold q_M_isBorne
        have ei : 4 * (8 * bs L p g + g) + x15 = 32 * bs L p g + 4 * g + (gone + stp L p g) := by omega
        have ex : x23 = cost + (cx L p g + wB L h p g) := by omega
        rw [ei, ex]
        refine ⟨by omega, fun lt s4 e4 => n1b (nx _ _ (by rw [e4]; exact hyes y g s21 hI c ok lt)), fun ge => n0b ⟨fun z => nx _ _ (by have := hno y g s21 hI c ok ge; rw [z] at this; exact this), fun z => nx _ _ (by have := hno y g s21 hI c ok ge; rw [show y = 1 by omega] at this; exact this)⟩⟩
      · show 0 = cx L p g - cst L p g
        have s0 : stp L p g = 0 := by omega
        have ns : ¬ Steep L p g := fun q => by
          have : stp L p g = 1 := cif_t q
          omega
        unfold cx
        rw [cif_f ns]
        omega
      · show s21 42 8 = cx L p g - cst L p g
        have s1 : stp L p g = 1 := by omega
        have ns : Steep L p g := Classical.byContradiction (fun q => by
          have : stp L p g = 0 := cif_f q
          omega)
        unfold cx
        rw [cif_t ns, hms.1]
        omega
    refine t_M_isSteep hms hL ip ⟨g0, c⟩ o.1 (fun st => ⟨fun w => w = stp L p g, fun w hw _ => main w hw, n1a (show 1 = stp L p g from (cif_t st).symm)⟩) (fun st => ⟨fun w => w = stp L p g, fun w hw _ => main w hw, n0a (show 0 = stp L p g from (cif_f st).symm)⟩)
  · refine ⟨fun e => ⟨rfl, fun z => absurd e z⟩, fun ne => t_M_canBend hms hL ip (by omega) ⟨g0, c⟩ (fun bd => n1b ⟨rfl, fun _ => bd⟩) (fun bd => n0b (nx _ _ (hskip y g s hI c (fun z => bd (z.2.1 ne)))))⟩
abbrev RG (L : Int → Int) (fr mo : Int) (d : Int → Int) : Prop := RI 2592 1000000000 1103 (rBs L fr mo) (rEd L mo) d
theorem RG_bd {fr mo : Int} {d : Int → Int} (h : RG L fr mo d) {v : Int} (v0 : 0 ≤ v) (v1 : v < 2592) : 0 ≤ d v ∧ d v ≤ 1000000000 ∧ (d v < 1000000000 → d v ≤ 2858976) := by
  have a := h.1 v v0 v1
  have b := cnt_le (fun i => decide (d (i : Nat) < 1000000000)) 2592
  exact ⟨a.1, a.2.1, fun q => by have := a.2.2 (by omega); omega⟩
def rC (L : Int → Int) (mo : Int) (P : Int → Int → Prop) (d : Int → Int) : Prop := ∀ p h g n, inP L p → (0 ≤ h ∧ h < 8) → (0 ≤ g ∧ g < 8) → (0 ≤ n ∧ n ≤ 3) → P (32 * p + 4 * h + n) g → Ok L p h n mo g → d (32 * p + 4 * h + n) < 1000000000 → d (32 * bs L p g + 4 * g + (n + stp L p g)) ≤ d (32 * p + 4 * h + n) + (cx L p g + bcs L h g)
/-- one state's steps -/
theorem t_M_borState {K : Int → zS → Prop} {fr mo k : Int} {s : zS} (hq : zQ [53] σ s) (hm : MM L (-1) (-1) σ) (hL : GW L) (hR : RB L) (hmo : 0 ≤ mo ∧ mo ≤ 3) (k0 : 0 ≤ k) (k1 : k < 32 * (L 0 * L 1)) (hG : RG L fr mo (s 53)) (hf : s 53 k < 1000000000) (h : ∀ y t, (y = 0 ∨ y = 1) → zQ [53] σ t → RG L fr mo (t 53) → ((y = 0 ∧ t = s ∧ rC L mo (fun u _ => u = k) (s 53)) ∨ (y = 1 ∧ sgm 2592 (t 53) < sgm 2592 (s 53))) → K y t) : q_M_bores (k / 32) (k / 4 % 8) (k % 4) (s 53 k) mo K s := by
  have hn := hL.n
  have ip : inP L (k / 32) := ⟨by omega, by omega⟩
  have ek : 32 * (k / 32) + 4 * (k / 4 % 8) + k % 4 = k := by omega
  have kb := RG_bd hG (v := k) k0 (by omega)
  have kf := kb.2.2 hf
  have nh : k / 4 % 8 ≠ -1 := by omega
  have wB' : ∀ g, wB L (k / 4 % 8) (k / 32) g = bcs L (k / 4 % 8) g := fun g => by unfold wB; rw [if_neg nh]
  refine t_M_bores (fun y g t => zQ [53] σ t ∧ RG L fr mo (t 53) ∧ (y = 0 ∨ y = 1) ∧ (0 ≤ g ∧ g ≤ 8) ∧ t 53 k = s 53 k ∧ ((y = 0 ∧ t = s ∧ rC L mo (fun u g' => u = k ∧ g' < g) (s 53)) ∨ (y = 1 ∧ sgm 2592 (t 53) < sgm 2592 (s 53)))) hL hR ip (Or.inr (by omega)) (by omega) hmo (by omega) ⟨hq, hG, Or.inl rfl, by decide, rfl, Or.inl ⟨rfl, rfl, fun p h g n _ _ _ _ hP => by have := hP.2; omega⟩⟩ ?_ ?_ ?_ ?_ ?_
  · rintro y g t ⟨a1, a2, a3, a4, a5, a6⟩
    exact ⟨MM_Q hm a1 (by decide), a3, a4.1, a4.2⟩
  · rintro y g t ⟨a1, a2, a3, a4, a5, a6⟩ c nok
    refine ⟨a1, a2, a3, by omega, a5, ?_⟩
    rcases a6 with ⟨b1, b2, b3⟩ | b
    · refine Or.inl ⟨b1, b2, fun p h g' n ip' hh hg hn' hP ok => ?_⟩
      have hP' : 32 * p + 4 * h + n = k ∧ g' < g + 1 := hP
      by_cases e : g' = g
      · exfalso
        have e1 : p = k / 32 := by omega
        have e2 : h = k / 4 % 8 := by omega
        have e3 : n = k % 4 := by omega
        rw [e, e1, e2, e3] at ok
        exact nok ok
      · exact b3 p h g' n ip' hh hg hn' ⟨hP'.1, by omega⟩ ok
    · exact Or.inr b
  · rintro y g t ⟨a1, a2, a3, a4, a5, a6⟩ c ok le
    refine ⟨a1, a2, a3, by omega, a5, ?_⟩
    rcases a6 with ⟨b1, b2, b3⟩ | b
    · refine Or.inl ⟨b1, b2, fun p h g' n ip' hh hg hn' hP ok' hf' => ?_⟩
      have hP' : 32 * p + 4 * h + n = k ∧ g' < g + 1 := hP
      by_cases e : g' = g
      · have e1 : p = k / 32 := by omega
        have e2 : h = k / 4 % 8 := by omega
        have e3 : n = k % 4 := by omega
        rw [e, hP'.1, e1, e2, e3]
        rw [b2, wB'] at le
        exact le
      · exact b3 p h g' n ip' hh hg hn' ⟨hP'.1, by omega⟩ ok' hf'
    · exact Or.inr b
  · rintro y g t ⟨a1, a2, a3, a4, a5, a6⟩ c ok lt
    have cb := cx_b hL ip ok.1.1
    have bb := bcs_b hL (g := k / 4 % 8) (h := g) (by omega) (by omega) a4.1 c
    have so := stp_or L (k / 32) g
    have iq := (bs_in ok.1.1).b hL
    have ipb := ip.b hL
    have o3 := ok.2.2
    rw [wB'] at lt ⊢
    rw [← a5] at lt ⊢
    have hE : rEd L mo (32 * bs L (k / 32) g + 4 * g + (k % 4 + stp L (k / 32) g)) k (cx L (k / 32) g + bcs L (k / 4 % 8) g) := ⟨k / 32, k / 4 % 8, g, k % 4, ip, by omega, ⟨a4.1, c⟩, by omega, ok.1, ok.2.1 nh, o3, ek.symm, rfl, rfl⟩
    have hU := RI_up a2 (v := 32 * bs L (k / 32) g + 4 * g + (k % 4 + stp L (k / 32) g)) (u := k) (w := cx L (k / 32) g + bcs L (k / 4 % 8) g) (by omega) (by omega) k0 (by omega) hE (by omega) (by omega) (by omega) (by omega)
    have hs := sgm_up (N := 2592) (d := t 53) (v := 32 * bs L (k / 32) g + 4 * g + (k % 4 + stp L (k / 32) g)) (x := t 53 k + (cx L (k / 32) g + bcs L (k / 4 % 8) g)) (by omega) (by omega) (by omega) (by omega)
    have hne : k ≠ 32 * bs L (k / 32) g + 4 * g + (k % 4 + stp L (k / 32) g) := fun q => by
      have : bs L (k / 32) g = k / 32 := by omega
      exact absurd this (bes_ne a4.1 c ok.1.1)
    refine ⟨zQ_t a1 (zQ_U (by decide)), by rw [zU_up]; exact hU, Or.inr rfl, by omega, by rw [zU_up, up_o hne], Or.inr ⟨rfl, ?_⟩⟩
    rw [zU_up]
    rcases a6 with ⟨b1, b2, b3⟩ | b
    · rw [b2] at hs ⊢
      exact hs
    · omega
  · rintro y t ⟨a1, a2, a3, a4, a5, a6⟩ hy
    refine h y t hy a1 a2 ?_
    rcases a6 with ⟨b1, b2, b3⟩ | b
    · exact Or.inl ⟨b1, b2, fun p h g' n ip' hh hg hn' hP ok => b3 p h g' n ip' hh hg hn' ⟨hP, hg.2⟩ ok⟩
    · exact Or.inr b
/-- the first steps -/
theorem t_M_borFirst {K : Int → zS → Prop} {fr mo : Int} (hm : MM L (-1) (-1) σ) (hL : GW L) (hR : RB L) (hmo : 0 ≤ mo ∧ mo ≤ 3) (ifr : inP L fr) (hI : ∀ v, 0 ≤ v → v < 2592 → σ 53 v = 1000000000) (h : ∀ y t, (y = 0 ∨ y = 1) → zQ [53] σ t → RG L fr mo (t 53) → (y = 0 → ∀ v, 0 ≤ v → v < 2592 → t 53 v = 1000000000) → K y t) : q_M_bores fr (-1) 0 0 mo K σ := by
  have wB' : ∀ g, wB L (-1) fr g = 0 := fun g => by unfold wB; rw [if_pos rfl]
  refine t_M_bores (fun y g s => zQ [53] σ s ∧ (y = 0 ∨ y = 1) ∧ (0 ≤ g ∧ g ≤ 8) ∧ (y = 0 → ∀ v, 0 ≤ v → v < 2592 → s 53 v = 1000000000) ∧ ∀ v, 0 ≤ v → v < 2592 → (s 53 v = 1000000000 ∧ (∀ g', 0 ≤ g' → g' < g → Opn L (-1) (-1) fr g' → stp L fr g' ≤ mo → v ≠ 32 * bs L fr g' + 4 * g' + stp L fr g')) ∨ ∃ g', (0 ≤ g' ∧ g' < g) ∧ Opn L (-1) (-1) fr g' ∧ stp L fr g' ≤ mo ∧ v = 32 * bs L fr g' + 4 * g' + stp L fr g' ∧ s 53 v = cx L fr g') hL hR ifr (Or.inl rfl) (by decide) hmo (by decide) ⟨zQ_r _ _, Or.inl rfl, by decide, fun _ => hI, fun v v0 v1 => Or.inl ⟨hI v v0 v1, fun g' a b => by omega⟩⟩ ?_ ?_ ?_ ?_ ?_
  · rintro y g t ⟨a1, a2, a3, a4, a5⟩
    exact ⟨MM_Q hm a1 (by decide), a2, a3.1, a3.2⟩
  · rintro y g t ⟨a1, a2, a3, a4, a5⟩ c nok
    refine ⟨a1, a2, by omega, a4, fun v v0 v1 => ?_⟩
    rcases a5 v v0 v1 with ⟨b1, b2⟩ | ⟨g', hg', r⟩
    · refine Or.inl ⟨b1, fun g' g0 g1 o hs => ?_⟩
      by_cases e : g' = g
      · rw [e] at o hs
        exact absurd ⟨o, fun z => absurd rfl z, by omega⟩ nok
      · exact b2 g' g0 (by omega) o hs
    · exact Or.inr ⟨g', by omega, r⟩
  · rintro y g t ⟨a1, a2, a3, a4, a5⟩ c ok le
    exfalso
    have cb := cx_b hL ifr ok.1.1
    have iq := (bs_in ok.1.1).b hL
    have so := stp_or L fr g
    rw [wB', show (0 : Int) + stp L fr g = stp L fr g by omega] at le
    rcases a5 (32 * bs L fr g + 4 * g + stp L fr g) (by omega) (by omega) with ⟨b1, -⟩ | ⟨g', hg', o', -, ev, -⟩
    · omega
    · have so' := stp_or L fr g'
      omega
  · rintro y g t ⟨a1, a2, a3, a4, a5⟩ c ok lt
    have iq := (bs_in ok.1.1).b hL
    have so := stp_or L fr g
    have o3 := ok.2.2
    rw [wB', show (0 : Int) + stp L fr g = stp L fr g by omega, show (0 : Int) + (cx L fr g + 0) = cx L fr g by omega]
    refine ⟨zQ_t a1 (zQ_U (by decide)), Or.inr rfl, by omega, fun z => absurd z (by decide), fun v v0 v1 => ?_⟩
    rw [zU_if]
    by_cases e : v = 32 * bs L fr g + 4 * g + stp L fr g
    · rw [if_pos e]
      exact Or.inr ⟨g, by omega, ok.1, by omega, e, rfl⟩
    · rw [if_neg e]
      rcases a5 v v0 v1 with ⟨b1, b2⟩ | ⟨g', hg', r⟩
      · refine Or.inl ⟨b1, fun g' g0 g1 o hs => ?_⟩
        by_cases eg : g' = g
        · rw [eg]; exact e
        · exact b2 g' g0 (by omega) o hs
      · exact Or.inr ⟨g', by omega, r⟩
  · rintro y t ⟨a1, a2, a3, a4, a5⟩ hy
    refine h y t hy a1 ⟨fun v v0 v1 => ?_, fun v hv hf => ?_, fun v b hb => ?_⟩ a4
    · rcases a5 v v0 v1 with ⟨a, -⟩ | ⟨g, hg, o, hs, ev, e⟩
      · rw [a]
        exact ⟨by omega, by omega, fun q => absurd q (by omega)⟩
      · have cb := cx_b hL ifr o.1
        have ec : ((v.toNat : Nat) : Int) = v := Int.toNat_of_nonneg v0
        have c1 := cnt_lt (P := fun _ => false) (Q := fun i => decide (t 53 (i : Nat) < 1000000000)) (j := v.toNat) 2592 (by omega) (fun _ _ q => by simp at q) rfl (by simp only [ec]; exact decide_eq_true (by omega))
        exact ⟨by omega, by omega, fun _ => by omega⟩
    · rcases a5 v hv.1 hv.2 with ⟨a, -⟩ | ⟨g, hg, o, hs, ev, e⟩
      · omega
      · exact Or.inl ⟨g, ⟨hg.1, by omega⟩, o, hs, ev, e⟩
    · obtain ⟨g, hg, o, hs, ev, eb⟩ := hb
      have iq := (bs_in o.1).b hL
      have so := stp_or L fr g
      rcases a5 v (by omega) (by omega) with ⟨-, q⟩ | ⟨g', hg', o', hs', ev', e⟩
      · exact absurd ev (q g hg.1 (by omega) o hs)
      · have so' := stp_or L fr g'
        have : g' = g := by omega
        subst this
        rw [e, eb]
        exact Int.le_refl _
end TG
