/-! ===== costs from a place, costs to it ===== -/
def CaP (d : Int → Int) (p m : Int) : Prop := 0 ≤ m ∧ m ≤ 1000000000 ∧ (∀ h, 0 ≤ h → h < 8 → m ≤ d (8 * p + h)) ∧ (m = 1000000000 ∨ ∃ h, (0 ≤ h ∧ h < 8) ∧ m = d (8 * p + h))
theorem t_M_costAt {K : Int → zS → Prop} {σ : zS} {p : Int} (hp : 0 ≤ p ∧ p < 81) (hb : ∀ v : Int, 0 ≤ v → v < 648 → 0 ≤ σ 51 v ∧ σ 51 v ≤ 1000000000) (h : ∀ m, CaP (σ 51) p m → K m σ) : q_M_costAt p K σ := by
  unfold q_M_costAt
  refine ⟨fun m y s => s = σ ∧ 0 ≤ y ∧ y ≤ 8 ∧ 0 ≤ m ∧ m ≤ 1000000000 ∧ (∀ h, 0 ≤ h → h < y → m ≤ σ 51 (8 * p + h)) ∧ (m = 1000000000 ∨ ∃ h, (0 ≤ h ∧ h < 8) ∧ m = σ 51 (8 * p + h)), fun _ y _ => (8 - y).toNat, ⟨rfl, by decide, by decide, by decide, by decide, fun h a b => by omega, Or.inl rfl⟩, ?_⟩
  rintro m y s ⟨rfl, y0, y8, m0, m1, hI1, hI2⟩ - -
  refine ⟨fun c => h m ⟨m0, m1, fun h a b => hI1 h a (by omega), hI2⟩, fun c => ⟨by omega, t_M_lesser ⟨⟨rfl, by omega, by omega, ?_⟩, zRi (by omega) (by omega), by dsimp only; omega⟩⟩⟩
  have hv := hb (8 * p + y) (by omega) (by omega)
  by_cases q : m < s 51 (8 * p + y)
  · rw [if_pos q]
    refine ⟨m0, m1, fun h a b => ?_, hI2⟩
    by_cases e : h = y
    · rw [e]; omega
    · exact hI1 h a (by omega)
  · rw [if_neg q]
    refine ⟨hv.1, hv.2, fun h a b => ?_, Or.inr ⟨y, ⟨y0, c⟩, rfl⟩⟩
    by_cases e : h = y
    · rw [e]; omega
    · have := hI1 h a (by omega)
      omega
theorem lab_bd {N : Nat} {B : Int → Int → Prop} {E : Int → Int → Int → Prop} {D : Int → Int} {M : Int} (hM : 0 ≤ M) (hE : ∀ v u w, E v u w → 1 ≤ w ∧ w ≤ M) (hB : ∀ v b, B v b → b ≤ M) (hD : Lab 1000000000 (fun v : Int => 0 ≤ v ∧ v < N) B E D) : ∀ v : Int, 0 ≤ v → v < N → D v < 1000000000 → D v ≤ M * N := by
  have key : ∀ n : Nat, ∀ v : Int, 0 ≤ v → v < N → D v < 1000000000 → (D v).toNat < n → D v ≤ M * ((cnt (fun i => decide (D (i : Nat) < D v)) N : Nat) + 1) := by
    intro n
    induction n with
    | zero => intro v _ _ _ h; exact absurd h (Nat.not_lt_zero _)
    | succ n ih =>
      intro v v0 v1 hf hn
      rcases hD.2.1 v ⟨v0, v1⟩ hf with q | ⟨u, w, q1, q2, q3, q4⟩
      · have a := hB v _ q
        have b : 0 ≤ M * (cnt (fun i => decide (D (i : Nat) < D v)) N : Nat) := Int.mul_nonneg hM (by omega)
        rw [Int.mul_add]
        omega
      · have a := hE v u w q2
        have b := (hD.2.2 u q1).1
        have c := hD.1.2 v u w q2 q3
        have d := ih u q1.1 q1.2 q3 (by omega)
        have e : ((u.toNat : Nat) : Int) = u := Int.toNat_of_nonneg q1.1
        have g := cnt_lt (P := fun i => decide (D (i : Nat) < D u)) (Q := fun i => decide (D (i : Nat) < D v)) (j := u.toNat) N (by have := q1.1; have := q1.2; omega) (fun i _ hi => by
          simp only [decide_eq_true_eq] at hi ⊢
          omega) (by simp only [e]; exact decide_eq_false (by omega)) (by simp only [e]; exact decide_eq_true (by omega))
        have m : M * ((cnt (fun i => decide (D (i : Nat) < D u)) N : Nat) + 1) ≤ M * (cnt (fun i => decide (D (i : Nat) < D v)) N : Nat) := Int.mul_le_mul_of_nonneg_left (by omega) hM
        rw [Int.mul_add]
        omega
  intro v v0 v1 hf
  have a := key _ v v0 v1 hf (Nat.lt_succ_self _)
  have e : ((v.toNat : Nat) : Int) = v := Int.toNat_of_nonneg v0
  have f := cnt_full (P := fun i => decide (D (i : Nat) < D v)) (j := v.toNat) (n := N) (by omega) (by simp only [e]; exact decide_eq_false (by omega))
  have m : M * ((cnt (fun i => decide (D (i : Nat) < D v)) N : Nat) + 1) ≤ M * N := Int.mul_le_mul_of_nonneg_left (by omega) hM
  omega
noncomputable def FdL (L d : Int → Int) : Int → Int := fun v => cif (inP L (v / 8) ∧ d (8 * (v / 8) + opp (v % 8)) < 1000000000) (d (8 * (v / 8) + opp (v % 8)) / 1024) 1000000000
theorem FdL_at {L d : Int → Int} {p g : Int} (hp : inP L p) (g0 : 0 ≤ g) (g1 : g < 8) : FdL L d (8 * p + g) = if d (8 * p + opp g) < 1000000000 then d (8 * p + opp g) / 1024 else 1000000000 := by
  unfold FdL
  rw [show (8 * p + g) / 8 = p by omega, show (8 * p + g) % 8 = g by omega]
  by_cases c : d (8 * p + opp g) < 1000000000
  · rw [cif_t ⟨hp, c⟩, if_pos c]
  · rw [cif_f (fun x => c x.2), if_neg c]
theorem kst0 (L C : Int → Int) (p g : Int) : kst L C 0 p g = cst L p g := by
  unfold kst
  rw [if_pos rfl]
theorem Sty_opp' {L : Int → Int} (hL : GW L) {A B p g : Int} (hp : inP L p) (h0 : 0 ≤ g) (h1 : g < 8) (hb : bs L p g ≠ -1) (h : Sty L A B (bs L p g) (opp g)) : Sty L A B p g := by
  have e := bs_opp hL hp h0 h1 hb
  have := Sty_opp hL (bs_in hb) opp_r.1 opp_r.2 h
  rw [e, opp_opp h0 h1] at this
  exact this
theorem FdL_lab {L C wt lf d : Int → Int} {A B goal : Int} (hL : GW L) (hC : CB L C) (ig : inP L goal) (hw : WtS L C A B 0 wt lf) (hD : Lab 1000000000 (fun v : Int => 0 ≤ v ∧ v < (648 : Nat)) (cBs L wt lf 1 goal) (cEd L (bwk L 0) wt lf 1) d) : Lab 1000000000 (fun v : Int => 0 ≤ v ∧ v < 648) (fBs L A B goal) (fEd L A B) (FdL L d) := by
  obtain ⟨hB, h1⟩ := WtS_WB hL hC hw
  have low := lab_low (fun v u w h => W1_E hL hB h1 h) (fun v b h => W1_B h1 h) hD
  have nn := hD.2.2
  have bdD := lab_bd (M := 319000) (by decide) (fun v u w h => by have a := cEd_b hL hB h; exact ⟨a.2.2.1, by have := a.1; have := a.2.1; omega⟩) (fun v b h => by have a := cBs_b hL hB h; have := a.1; omega) hD
  have bw : ∀ g h, bwk L 0 (eig g h) = bcs L g h * 1024 := fun g h => by
    show bwt L 0 (eig g h) * 1024 = _
    rw [← kbn_bwt]
    unfold kbn
    rw [if_pos (Or.inl rfl)]
  refine ⟨⟨?_, ?_⟩, ?_, fun v hv => ?_⟩
  · rintro v b ⟨g, hg, st, ev, eb⟩
    have hb := st.1.1
    have iq := bs_in hb
    have ibk := bs_opp hL ig hg.1 hg.2 hb
    have st' := Sty_opp hL ig hg.1 hg.2 st
    have w := ((hw (bs L goal g) (opp g) iq opp_r.1 opp_r.2).1 st')
    rw [kst0, cst_opp hL ig hg.1 hg.2 hb] at w
    have cb := cst_b hL ig hb
    have a := hD.1.1 (8 * bs L goal g + opp g) (wt (8 * bs L goal g + opp g)) ⟨bs L goal g, opp g, iq, opp_r.1, opp_r.2, ibk, by omega, by omega, by omega, rfl⟩
    rw [ev, FdL_at iq hg.1 hg.2, eb, if_pos (by omega)]
    omega
  · rintro v u w ⟨p, h, g, ip, hh, hg, st, bd, eu, ev, ew⟩ hf
    have hb := st.1.1
    have iq := bs_in hb
    have ibk := bs_opp hL ip hg.1 hg.2 hb
    have st' := Sty_opp hL ip hg.1 hg.2 st
    have w1 := ((hw (bs L p g) (opp g) iq opp_r.1 opp_r.2).1 st')
    rw [kst0, cst_opp hL ip hg.1 hg.2 hb] at w1
    have cb := cst_b hL ip hb
    have bb := bcs_b hL hh.1 hh.2 hg.1 hg.2
    have ipb := ip.b hL
    rw [eu, FdL_at ip hh.1 hh.2] at hf ⊢
    have hfu : d (8 * p + opp h) < 1000000000 := by
      by_cases q : d (8 * p + opp h) < 1000000000
      · exact q
      · rw [if_neg q] at hf; omega
    rw [if_pos hfu] at hf ⊢
    have oh := opp_r (g := h)
    have lo := low (8 * p + opp h) (by omega) (by omega) hfu
    have ubd := bdD (8 * p + opp h) (by omega) (by omega) hfu
    have bd' : Bnd L (bs L (bs L p g) (opp g)) (opp g) (opp h) := by
      rw [ibk]
      exact (Bnd_opp hg.1 hg.2 hh.1 hh.2).mpr ((Bnd_sym L p h g).mp bd)
    have a := hD.1.2 (8 * bs L p g + opp g) (8 * p + opp h) (wt (8 * bs L p g + opp g) + bwk L 0 (eig (opp g) (opp h))) ⟨bs L p g, opp g, opp h, 0, iq, opp_r, opp_r, by decide, by rw [ibk]; exact ip.ne, by omega, by omega, bd', by omega, by rw [ibk]; omega, rfl⟩ hfu
    rw [bw, bcs_opp hg.1 hg.2 hh.1 hh.2, bcs_sym] at a
    rw [ev, FdL_at iq hg.1 hg.2, ew]
    have iqb := iq.b hL
    have og := opp_r (g := g)
    have nb := nn (8 * bs L p g + opp g) ⟨by omega, by omega⟩
    have un := nn (8 * p + opp h) ⟨by omega, by omega⟩
    by_cases q : d (8 * bs L p g + opp g) < 1000000000
    · rw [if_pos q]; omega
    · rw [if_neg q]; omega
  · intro v hv hf
    have c : inP L (v / 8) ∧ d (8 * (v / 8) + opp (v % 8)) < 1000000000 := Classical.byContradiction (fun x => by
      unfold FdL at hf
      rw [cif_f x] at hf
      omega)
    have ev : v = 8 * (v / 8) + v % 8 := by omega
    generalize v / 8 = q at *
    have hg0 : 0 ≤ v % 8 := by omega
    have hg1 : v % 8 < 8 := by omega
    generalize v % 8 = g at *
    subst ev
    obtain ⟨iq, hfd⟩ := c
    have iqb := iq.b hL
    have og := opp_r (g := g)
    rw [FdL_at iq hg0 hg1, if_pos hfd]
    rcases hD.2.1 (8 * q + opp g) ⟨by omega, by omega⟩ hfd with ⟨p', g', ip', g0', g1', hb, hwn, hl, e1, e2⟩ | ⟨u, w, hu, ⟨p', g', g'', l, ip', hg', hg'', l0, hb, hwn, hl, hbd, e1, e2, e3⟩, hfu, hle⟩
    · have w0 := h1.1 p' g' ip' g0' g1' hwn
      have hpq : p' = q ∧ g' = opp g := by have := ip'.b hL; omega
      obtain ⟨rfl, rfl⟩ := hpq
      have st' : Sty L A B p' (opp g) := Classical.byContradiction (fun x => hwn ((hw p' (opp g) ip' g0' g1').2 x))
      have st := Sty_opp hL iq g0' g1' st'
      have hbk := bs_opp hL iq g0' g1' st'.1.1
      rw [opp_opp hg0 hg1, hb] at st hbk
      have w1 := ((hw p' (opp g) ip' g0' g1').1 st').1
      rw [kst0] at w1
      have ce := cst_opp hL iq g0' g1' st'.1.1
      rw [opp_opp hg0 hg1, hb] at ce
      refine Or.inl ⟨g, ⟨hg0, hg1⟩, st, by rw [hbk], ?_⟩
      omega
    · have w0 := h1.1 p' g' ip' hg'.1 hg'.2 hwn
      have hpq : p' = q ∧ g' = opp g := by have := ip'.b hL; omega
      obtain ⟨rfl, rfl⟩ := hpq
      have el : l = 0 := by omega
      subst el
      have st' : Sty L A B p' (opp g) := Classical.byContradiction (fun x => hwn ((hw p' (opp g) ip' hg'.1 hg'.2).2 x))
      have st := Sty_opp hL iq hg'.1 hg'.2 st'
      have hbk := bs_opp hL iq hg'.1 hg'.2 st'.1.1
      rw [opp_opp hg0 hg1] at st hbk
      have w1 := ((hw p' (opp g) ip' hg'.1 hg'.2).1 st').1
      rw [kst0] at w1
      have ce := cst_opp hL iq hg'.1 hg'.2 st'.1.1
      rw [opp_opp hg0 hg1] at ce
      have ip := bs_in hb
      have ipb := ip.b hL
      have og2 := opp_r (g := g'')
      have eu : u = 8 * bs L p' (opp g) + g'' := by omega
      rw [eu] at hfu hle
      have lo := low (8 * bs L p' (opp g) + g'') (by omega) (by omega) hfu
      have un := nn (8 * bs L p' (opp g) + g'') ⟨by omega, by omega⟩
      have fu : FdL L d (8 * bs L p' (opp g) + opp g'') = d (8 * bs L p' (opp g) + g'') / 1024 := by
        rw [FdL_at ip opp_r.1 opp_r.2, opp_opp hg''.1 hg''.2, if_pos hfu]
      have bd' : Bnd L (bs L p' (opp g)) (opp g'') g := by
        have := (Bnd_opp hg'.1 hg'.2 hg''.1 hg''.2).mpr hbd
        rw [opp_opp hg0 hg1] at this
        exact (Bnd_sym L _ _ _).mp this
      have bc : bcs L (opp g'') g = bcs L (opp g) g'' := by
        rw [bcs_sym, ← bcs_opp hg'.1 hg'.2 hg''.1 hg''.2, opp_opp hg0 hg1]
      rw [e3, bw] at hle
      have cb := cst_b hL iq st'.1.1
      have bb := bcs_b hL hg'.1 hg'.2 hg''.1 hg''.2
      refine Or.inr ⟨8 * bs L p' (opp g) + opp g'', cst L (bs L p' (opp g)) g + bcs L (opp g'') g, ⟨by omega, by omega⟩, ⟨bs L p' (opp g), opp g'', g, ip, opp_r, ⟨hg0, hg1⟩, st, bd', rfl, by rw [hbk], rfl⟩, ?_, ?_⟩
      · rw [fu]; omega
      · rw [fu, bc, ce]; omega
  · by_cases c : inP L (v / 8) ∧ d (8 * (v / 8) + opp (v % 8)) < 1000000000
    · unfold FdL
      rw [cif_t c]
      have ob := opp_r (g := v % 8)
      have := nn (8 * (v / 8) + opp (v % 8)) ⟨by omega, by omega⟩
      omega
    · unfold FdL
      rw [cif_f c]
      omega
theorem cost_match {L C wt lf d e : Int → Int} {A B goal p mk mr : Int} (hL : GW L) (hC : CB L C) (ig : inP L goal) (ip : inP L p) (hw : WtS L C A B 0 wt lf) (hD : Lab 1000000000 (fun v : Int => 0 ≤ v ∧ v < (648 : Nat)) (cBs L wt lf 1 goal) (cEd L (bwk L 0) wt lf 1) d) (hE : Lab 1000000000 (fun v : Int => 0 ≤ v ∧ v < 648) (fBs L A B goal) (fEd L A B) e) (hk : LkP d 1 p mk) (hr : CaP e p mr) : mr = if mk = 1000000000 then 1000000000 else mk / 1024 := by
  have hF := FdL_lab hL hC ig hw hD
  have ipb := ip.b hL
  have eqn : ∀ h, 0 ≤ h → h < 8 → e (8 * p + h) = if d (8 * p + opp h) < 1000000000 then d (8 * p + opp h) / 1024 else 1000000000 := fun h h0 h1 => by
    rw [← FdL_at ip h0 h1]
    exact lab_eq (fun v u w q => (fEd_b hL q).2.2.1) hE hF _ ⟨by omega, by omega⟩
  obtain ⟨k0, k1, k2, k3⟩ := hk
  obtain ⟨r0, r1, r2, r3⟩ := hr
  have kb : ∀ g, 0 ≤ g → g < 8 → mk ≤ d (8 * p + g) := fun g g0 g1 => by
    have := k2 0 g (by decide) (by decide) g0 g1
    rw [show 0 * 648 + (8 * p + g) = 8 * p + g by omega] at this
    exact this
  have nb : ∀ g, 0 ≤ g → g < 8 → 0 ≤ d (8 * p + g) ∧ d (8 * p + g) ≤ 1000000000 := fun g g0 g1 => hD.2.2 (8 * p + g) ⟨by omega, by omega⟩
  by_cases q : mk = 1000000000
  · rw [if_pos q]
    rcases r3 with z | ⟨h, hh, z⟩
    · exact z
    · have ob := opp_r (g := h)
      have := kb (opp h) ob.1 ob.2
      rw [eqn h hh.1 hh.2, if_neg (by omega)] at z
      exact z
  · rw [if_neg q]
    obtain ⟨l, g, hl, hg, em⟩ := k3.resolve_left q
    rw [show l * 648 + (8 * p + g) = 8 * p + g by omega] at em
    have ob := opp_r (g := g)
    have a := r2 (opp g) ob.1 ob.2
    rw [eqn (opp g) ob.1 ob.2, opp_opp hg.1 hg.2, if_pos (by omega), ← em] at a
    rcases r3 with z | ⟨h, hh, z⟩
    · omega
    · have oh := opp_r (g := h)
      have b := kb (opp h) oh.1 oh.2
      have nn := nb (opp h) oh.1 oh.2
      rw [eqn h hh.1 hh.2] at z
      by_cases c : d (8 * p + opp h) < 1000000000
      · rw [if_pos c] at z
        omega
      · rw [if_neg c] at z
        omega
/-- the class's costs to all places -/
def SaP (L : Int → Int) (goal : Int) (τ : zS) : Prop := τ 15 12 = 1 ∧ (∀ v : Int, 0 ≤ v → v < 648 → 0 ≤ τ 22 v ∧ τ 22 v ≤ 1000000000) ∧ ∃ wt lf, WtS L (catL L) (-1) (-1) 0 wt lf ∧ Lab 1000000000 (fun v : Int => 0 ≤ v ∧ v < (648 : Nat)) (cBs L wt lf 1 goal) (cEd L (bwk L 0) wt lf 1) (τ 22)
theorem SaP_Q {L : Int → Int} {goal : Int} {S : List Nat} {σ τ : zS} (h : SaP L goal σ) (hq : zQ S σ τ) (h1 : 15 ∉ S ∧ 22 ∉ S) : SaP L goal τ := by
  unfold SaP
  rw [hq 15 h1.1, hq 22 h1.2]
  exact h
theorem t_W_searchAll {K : zS → Prop} {σ : zS} {L : Int → Int} {goal : Int} (hc : CC L σ) (hL : GW L) (hW : RWs L) (ig : inP L goal) (h : ∀ τ, zQ [12, 13, 15, 16, 17, 18, 19, 20, 21, 22, 23, 24] σ τ → SaP L goal τ → K τ) : q_W_searchAll goal K σ := by
  have t2 : 0 ≤ L 2 ∧ L 2 ≤ 99 := by have := hL.2.1; omega
  unfold q_W_searchAll
  refine t_L_value (v := 2) hc (by decide) rfl (t_W_prepare hc hL hW (by decide) t2 (fun τ1 q1 _ hP => ?_))
  have hc1 := CC_Q hc q1 (by decide)
  obtain ⟨hG, hw⟩ := PR_ready hc1 hP
  obtain ⟨hB, h1⟩ := WtS_WB hL (catL_CB hL) hw
  refine t_W_search (N := 648) rfl hG hB hL ig (fun τ2 q2 _ hLab hb => h τ2 (zQ_t (zQ_m q1 (by decide)) (zQ_m q2 (by decide))) ⟨?_, hb, _, _, hw, hLab rfl⟩)
  rw [q2 15 (by decide)]
  exact hG.2.2.1
/-- a cost, as the class and as the reference tell it -/
theorem t_W_costBetween {K : Int → zS → Prop} {σ : zS} {L : Int → Int} {goal p : Int} (hL : GW L) (ip : inP L p) (hS : SaP L goal σ) (h : ∀ c, (p = goal → c = 0) → (p ≠ goal → ∃ m, LkP (σ 22) 1 p m ∧ c = if m = 1000000000 then -1 else m / 1024) → K c σ) : q_W_costBetween p goal K σ := by
  unfold q_W_costBetween
  refine ⟨fun ne => t_W_left (ly := 1) hS.1 (by decide) (ip.b hL) (fun v a b => hS.2.1 v a (by omega)) (fun m hm => h _ (fun e => absurd e ne) (fun _ => ⟨m, hm, rfl⟩)), fun e => h 0 (fun _ => rfl) (fun ne => absurd e ne)⟩
/-- the two costs of one place agree -/
theorem cost_agree {L e : Int → Int} {σ : zS} {goal p c m r : Int} (hL : GW L) (ig : inP L goal) (ip : inP L p) (hS : SaP L goal σ) (hE : Lab 1000000000 (fun v : Int => 0 ≤ v ∧ v < 648) (fBs L (-1) (-1) goal) (fEd L (-1) (-1)) e) (hm : LkP (σ 22) 1 p m) (hc : c = if m = 1000000000 then -1 else m / 1024) (hr : CaP e p r) : (c = -1 ∧ r = 1000000000) ∨ (0 ≤ c ∧ c ≤ 976562 ∧ r = c) := by
  obtain ⟨-, -, wt, lf, hw, hD⟩ := hS
  have a := cost_match hL (catL_CB hL) ig ip hw hD hE hm hr
  have := hm.1
  have := hm.2.1
  by_cases q : m = 1000000000
  · rw [if_pos q] at a hc
    exact Or.inl ⟨hc, a⟩
  · rw [if_neg q] at a hc
    exact Or.inr ⟨by omega, by omega, by omega⟩
