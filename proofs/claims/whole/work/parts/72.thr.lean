/-! ===== labels there are; whether there is a way ===== -/
theorem lab_ex {N : Nat} {INF M : Int} {B : Int → Int → Prop} {E : Int → Int → Int → Prop} (hB : ∀ v b, B v b → (0 ≤ v ∧ v < N) ∧ 0 ≤ b ∧ b ≤ M ∧ b < INF) (hBu : ∀ v b b', B v b → B v b' → b = b') (hE : ∀ v u w, E v u w → (0 ≤ v ∧ v < N) ∧ (0 ≤ u ∧ u < N) ∧ 0 ≤ w ∧ w ≤ M) (hI : 0 ≤ INF) : ∃ d, Lab INF (fun v : Int => 0 ≤ v ∧ v < N) B E d := by
  have step : ∀ n : Nat, ∀ d, RI N INF M B E d → sgm N d < n → ∃ d, Lab INF (fun v : Int => 0 ≤ v ∧ v < N) B E d := by
    intro n
    induction n with
    | zero => intro d _ h; exact absurd h (Nat.not_lt_zero _)
    | succ n ih =>
      intro d hd hn
      by_cases c : ∀ v u w, E v u w → d u < INF → d v ≤ d u + w
      · exact ⟨d, RI_lab hd c⟩
      · have : ∃ v u w, E v u w ∧ d u < INF ∧ d u + w < d v := Classical.byContradiction (fun x => c (fun v u w he hf => by
          by_cases q : d v ≤ d u + w
          · exact q
          · exact absurd ⟨v, u, w, he, hf, by omega⟩ x))
        obtain ⟨v, u, w, he, hf, hl⟩ := this
        obtain ⟨hv, hu, w0, w1⟩ := hE v u w he
        have a := (hd.1 u hu.1 hu.2).1
        exact ih _ (RI_up hd hv.1 hv.2 hu.1 hu.2 he w0 w1 hf hl) (by
          have := sgm_up (N := N) (d := d) hv.1 hv.2 (x := d u + w) (by omega) hl
          omega)
  have key : ∃ d, RI N INF M B E d := by
    obtain ⟨d0, hT, hF⟩ : ∃ d0 : Int → Int, (∀ v, (∃ b, B v b) → B v (d0 v)) ∧ ∀ v, ¬ (∃ b, B v b) → d0 v = INF := by
      refine ⟨fun v => cif (∃ b, B v b) (Classical.epsilon (fun b => B v b)) INF, fun v c => ?_, fun v c => cif_f c⟩
      show B v (cif (∃ b, B v b) (Classical.epsilon (fun b => B v b)) INF)
      rw [cif_t c]
      exact Classical.epsilon_spec c
    refine ⟨d0, fun v v0 v1 => ?_, fun v hv hf => ?_, fun v b hb => ?_⟩
    · by_cases c : ∃ b, B v b
      · have b := hB v _ (hT v c)
        have e : ((v.toNat : Nat) : Int) = v := Int.toNat_of_nonneg v0
        have c1 := cnt_lt (P := fun _ => false) (Q := fun i => decide (d0 (i : Nat) < INF)) (j := v.toNat) N (by omega) (fun _ _ q => by simp at q) rfl (by simp only [e]; exact decide_eq_true b.2.2.2)
        refine ⟨b.2.1, by omega, fun _ => ?_⟩
        have m : M * 1 ≤ M * (cnt (fun i => decide (d0 (i : Nat) < INF)) N : Nat) := Int.mul_le_mul_of_nonneg_left (by omega) (by omega)
        omega
      · rw [hF v c]
        exact ⟨hI, Int.le_refl _, fun q => absurd q (by omega)⟩
    · by_cases c : ∃ b, B v b
      · exact Or.inl (hT v c)
      · rw [hF v c] at hf
        omega
    · rw [hBu v _ b (hT v ⟨b, hb⟩) hb]
      exact Int.le_refl _
  obtain ⟨d, hd⟩ := key
  exact step _ d hd (Nat.lt_succ_self _)
theorem cLab_ex {L bw wt lf : Int → Int} {goal ly : Int} {N : Nat} (hN : (N : Int) = ly * 648) (hL : GW L) (hB : WB L bw wt lf ly) : ∃ d, Lab 1000000000 (fun v : Int => 0 ≤ v ∧ v < N) (cBs L wt lf ly goal) (cEd L bw wt lf ly) d := by
  have hly := hB.1
  refine lab_ex (M := 9000000) (fun v b h => ?_) (fun v b b' h h' => ?_) (fun v u w h => ?_) (by decide)
  · have a := cBs_b hL hB h
    omega
  · obtain ⟨p, g, ip, g0, g1, hb, hw, hl, e1, e2⟩ := h
    obtain ⟨p', g', ip', g0', g1', hb', hw', hl', e1', e2'⟩ := h'
    have a := (hB.2.2 p g ip g0 g1).resolve_left hw
    have a' := (hB.2.2 p' g' ip' g0' g1').resolve_left hw'
    have h1 := ip.b hL
    have h2 := ip'.b hL
    have : p = p' ∧ g = g' := by omega
    rw [e2, e2', this.1, this.2]
  · have a := cEd_b hL hB h
    omega
noncomputable def wS (L : Int → Int) (A B : Int) : Int → Int := fun v => cif (Sty L A B (v / 8) (v % 8)) 0 (-1)
theorem wS_at {L : Int → Int} {A B p g : Int} (g0 : 0 ≤ g) (g1 : g < 8) : wS L A B (8 * p + g) ≠ -1 ↔ Sty L A B p g := by
  unfold wS
  rw [show (8 * p + g) / 8 = p by omega, show (8 * p + g) % 8 = g by omega]
  by_cases c : Sty L A B p g
  · rw [cif_t c]
    exact ⟨fun _ => c, fun _ => by decide⟩
  · rw [cif_f c]
    exact ⟨fun x => absurd rfl x, fun x => absurd x c⟩
def Thr (L : Int → Int) (A B fr q : Int) : Prop := ∃ p g, inP L p ∧ (0 ≤ g ∧ g < 8) ∧ NR L (wS L A B) fr p g ∧ bs L p g = q
theorem NRn_mono {L M wt wt' : Int → Int} {fr : Int} (e0 : M 0 = L 0) (e1 : M 1 = L 1) (hB : ∀ p g h, Bnd L p g h → Bnd M p g h) (hw : ∀ p g, inP L p → 0 ≤ g → g < 8 → wt (8 * p + g) ≠ -1 → wt' (8 * p + g) ≠ -1) : ∀ n p g, inP L p → (0 ≤ g ∧ g < 8) → NRn L wt fr n p g → NRn M wt' fr n p g := by
  have ip : ∀ p, inP M p ↔ inP L p := fun p => by unfold inP; rw [e0, e1]
  have eb : ∀ p g, bs M p g = bs L p g := fun p g => by show bes _ _ _ _ = bes _ _ _ _; rw [e0, e1]
  intro n
  induction n with
  | zero => exact fun p g i hg h => ⟨h.1, hw p g i hg.1 hg.2 h.2⟩
  | succ n ih =>
    intro p g i hg h
    rcases h with h | ⟨p0, g0, i0, hg0, hr, ep, hwt, bd⟩
    · exact Or.inl (ih p g i hg h)
    · exact Or.inr ⟨p0, g0, (ip p0).mpr i0, hg0, ih p0 g0 i0 hg0 hr, by rw [eb]; exact ep, hw p g i hg.1 hg.2 hwt, hB p g0 g bd⟩
theorem Thr_mono {L M : Int → Int} {A B fr q : Int} (e0 : M 0 = L 0) (e1 : M 1 = L 1) (hB : ∀ p g h, Bnd L p g h → Bnd M p g h) (hS : ∀ p g, inP L p → 0 ≤ g → g < 8 → Sty L A B p g → Sty M A B p g) (h : Thr L A B fr q) : Thr M A B fr q := by
  have ip : ∀ p, inP M p ↔ inP L p := fun p => by unfold inP; rw [e0, e1]
  have eb : ∀ p g, bs M p g = bs L p g := fun p g => by show bes _ _ _ _ = bes _ _ _ _; rw [e0, e1]
  obtain ⟨p, g, i, hg, ⟨n, hr⟩, e⟩ := h
  exact ⟨p, g, (ip p).mpr i, hg, ⟨n, NRn_mono e0 e1 hB (fun p g i g0 g1 w => (wS_at g0 g1).mpr (hS p g i g0 g1 ((wS_at g0 g1).mp w))) n p g i hg hr⟩, by rw [eb]; exact e⟩
/-- the reference's labels know it -/
theorem Thr_lab {L : Int → Int} {A B fr q : Int} {e : Int → Int} (hL : GW L) (hfr : inP L fr) (hE : Lab 1000000000 (fun v : Int => 0 ≤ v ∧ v < 648) (fBs L A B fr) (fEd L A B) e) (iq : inP L q) : (∃ h, (0 ≤ h ∧ h < 8) ∧ e (8 * q + h) < 1000000000) ↔ Thr L A B fr q := by
  have bdE := lab_bd (N := 648) (M := 1004) (by decide) (fun v u w h => (fEd_b hL h).2.2) (fun v b h => by
    obtain ⟨g, hg, st, -, eb⟩ := h
    have := cst_b hL hfr st.1.1
    omega) hE
  constructor
  · rintro ⟨h, hh, hf⟩
    have iqb := iq.b hL
    have key : ∀ n : Nat, ∀ v : Int, 0 ≤ v → v < 648 → e v < 1000000000 → (e v).toNat < n → ∃ p g, inP L p ∧ (0 ≤ g ∧ g < 8) ∧ NR L (wS L A B) fr p g ∧ v = 8 * bs L p g + g := by
      intro n
      induction n with
      | zero => intro v _ _ _ z; exact absurd z (Nat.not_lt_zero _)
      | succ n ih =>
        intro v v0 v1 hf hn
        rcases hE.2.1 v ⟨v0, v1⟩ hf with ⟨g, hg, st, ev, -⟩ | ⟨u, w, hu, hed, hfu, hle⟩
        · exact ⟨fr, g, hfr, hg, ⟨0, rfl, (wS_at hg.1 hg.2).mpr st⟩, ev⟩
        · have b := fEd_b hL hed
          have nn := (hE.2.2 u hu).1
          obtain ⟨p0, g0, ip0, hg0, ⟨m, hr⟩, eu⟩ := ih u hu.1 hu.2 hfu (by omega)
          obtain ⟨p, hh, g, ip, hh', hg, st, bd, e1, e2, -⟩ := hed
          have ipb := ip.b hL
          have hb0 : bs L p0 g0 = p ∧ g0 = hh := by omega
          refine ⟨p, g, ip, hg, ⟨m + 1, Or.inr ⟨p0, g0, ip0, hg0, hr, hb0.1.symm, (wS_at hg.1 hg.2).mpr st, by rw [hb0.2]; exact bd⟩⟩, e2⟩
    obtain ⟨p, g, ip, hg, hr, ev⟩ := key _ (8 * q + h) (by omega) (by omega) hf (Nat.lt_succ_self _)
    have : bs L p g = q := by
      by_cases z : bs L p g = -1
      · omega
      · have := (bs_in z).b hL
        omega
    exact ⟨p, g, ip, hg, hr, this⟩
  · rintro ⟨p, g, ip, hg, ⟨n, hr⟩, rfl⟩
    have key : ∀ n p g, inP L p → (0 ≤ g ∧ g < 8) → NRn L (wS L A B) fr n p g → Sty L A B p g ∧ e (8 * bs L p g + g) < 1000000000 := by
      intro n
      induction n with
      | zero =>
        rintro p g ip hg ⟨rfl, hw⟩
        have st := (wS_at hg.1 hg.2).mp hw
        have cb := cst_b hL ip st.1.1
        have := hE.1.1 _ _ ⟨g, hg, st, rfl, rfl⟩
        exact ⟨st, by omega⟩
      | succ n ih =>
        intro p g ip hg hr
        rcases hr with hr | ⟨p0, g0, ip0, hg0, hr, ep, hw, bd⟩
        · exact ih p g ip hg hr
        · obtain ⟨st0, hf0⟩ := ih p0 g0 ip0 hg0 hr
          have st := (wS_at hg.1 hg.2).mp hw
          have ib := (bs_in st0.1.1).b hL
          have bb := bdE (8 * bs L p0 g0 + g0) (by omega) (by omega) hf0
          have c := hE.1.2 _ _ _ ⟨p, g0, g, ip, hg0, hg, st, bd, rfl, rfl, rfl⟩ (show e (8 * p + g0) < 1000000000 by rw [ep]; exact hf0)
          have cb := cst_b hL ip st.1.1
          have bc := bcs_b hL hg0.1 hg0.2 hg.1 hg.2
          rw [ep] at c
          rw [ep] at cb ⊢
          rw [ep] at st
          exact ⟨st, by omega⟩
    exact ⟨g, hg, (key n p g ip hg hr).2⟩
/-- whether there is a way, told by the reference -/
theorem t_M_isThere {K : Int → zS → Prop} {σ : zS} {L : Int → Int} {A B fr q : Int} (hm : MM L A B σ) (hL : GW L) (hR : RB L) (hfr : inP L fr) (iq : inP L q) (hT : Thr L A B fr q → ∀ τ, zQ [51] σ τ → K 1 τ) (hF : ¬ Thr L A B fr q → ∀ τ, zQ [51] σ τ → K 0 τ) : q_M_isThere fr q K σ := by
  unfold q_M_isThere
  refine t_M_goesFrom hm hL hR hfr (fun τ hq hb hLab => t_M_costAt (iq.b hL) (fun v a b => ⟨(hb v a b).1, (hb v a b).2.1⟩) (fun m hm => ?_))
  have t := Thr_lab hL hfr hLab iq
  refine ⟨fun c => hF (fun x => ?_) τ hq, fun c => hT (t.mp ?_) τ hq⟩
  · obtain ⟨h, hh, hf⟩ := t.mpr x
    have := hm.2.2.1 h hh.1 hh.2
    omega
  · rcases hm.2.2.2 with x | ⟨h, hh, x⟩
    · omega
    · exact ⟨h, hh, by omega⟩
theorem NR_congr {L wt wt' : Int → Int} {fr p g : Int} (hw : ∀ p g, inP L p → 0 ≤ g → g < 8 → (wt (8 * p + g) ≠ -1 ↔ wt' (8 * p + g) ≠ -1)) (ip : inP L p) (hg : 0 ≤ g ∧ g < 8) : NR L wt fr p g ↔ NR L wt' fr p g := by
  constructor
  · rintro ⟨n, h⟩
    exact ⟨n, NRn_mono rfl rfl (fun _ _ _ b => b) (fun p g i g0 g1 => (hw p g i g0 g1).mp) n p g ip hg h⟩
  · rintro ⟨n, h⟩
    exact ⟨n, NRn_mono rfl rfl (fun _ _ _ b => b) (fun p g i g0 g1 => (hw p g i g0 g1).mpr) n p g ip hg h⟩
