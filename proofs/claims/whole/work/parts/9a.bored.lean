/-! ===== bored: ways with steep steps, counted ===== -/
noncomputable def stp (L : Int → Int) (p g : Int) : Int := cif (Steep L p g) 1 0
noncomputable def cx (L : Int → Int) (p g : Int) : Int := cst L p g + cif (Steep L p g) (L 8) 0
def rBs (L : Int → Int) (fr mo v b : Int) : Prop := ∃ g, (0 ≤ g ∧ g < 8) ∧ Opn L (-1) (-1) fr g ∧ stp L fr g ≤ mo ∧ v = 32 * bs L fr g + 4 * g + stp L fr g ∧ b = cx L fr g
def rEd (L : Int → Int) (mo v u w : Int) : Prop := ∃ p h g n, inP L p ∧ (0 ≤ h ∧ h < 8) ∧ (0 ≤ g ∧ g < 8) ∧ 0 ≤ n ∧ Opn L (-1) (-1) p g ∧ Bnd L p h g ∧ n + stp L p g ≤ mo ∧ u = 32 * p + 4 * h + n ∧ v = 32 * bs L p g + 4 * g + (n + stp L p g) ∧ w = cx L p g + bcs L h g
section TB
variable {L : Int → Int}
theorem stp_or (L : Int → Int) (p g : Int) : stp L p g = 0 ∨ stp L p g = 1 := by
  by_cases c : Steep L p g
  · exact Or.inr (cif_t c)
  · exact Or.inl (cif_f c)
theorem cx_b (hL : GW L) {p g : Int} (hp : inP L p) (h : bs L p g ≠ -1) : 10 ≤ cx L p g ∧ cx L p g ≤ 1004 := by
  have a := cst_b hL hp h
  have t8 : 0 ≤ L 8 ∧ L 8 ≤ 99 := by have := hL.2.1; omega
  unfold cx
  by_cases c : Steep L p g
  · rw [cif_t c]; omega
  · rw [cif_f c]; omega
theorem rEd_b {mo v u w : Int} (hL : GW L) (hmo : mo ≤ 3) (h : rEd L mo v u w) : (0 ≤ v ∧ v < 2592) ∧ (0 ≤ u ∧ u < 2592) ∧ 1 ≤ w ∧ w ≤ 1103 := by
  obtain ⟨p, h, g, n, ip, hh, hg, n0, o, -, hs, e1, e2, e3⟩ := h
  have h1 := ip.b hL
  have h2 := (bs_in o.1).b hL
  have h3 := cx_b hL ip o.1
  have h4 := bcs_b hL hh.1 hh.2 hg.1 hg.2
  have h5 := stp_or L p g
  omega
theorem rBs_b {fr mo v b : Int} (hL : GW L) (hmo : mo ≤ 3) (ifr : inP L fr) (h : rBs L fr mo v b) : (0 ≤ v ∧ v < 2592) ∧ 1 ≤ b ∧ b ≤ 1103 := by
  obtain ⟨g, hg, o, hs, e1, e2⟩ := h
  have h2 := (bs_in o.1).b hL
  have h3 := cx_b hL ifr o.1
  have h5 := stp_or L fr g
  omega
/-- a bound for labels with layers -/
theorem lab_bd2 {N : Nat} {B : Int → Int → Prop} {E : Int → Int → Int → Prop} {D : Int → Int} (hE : ∀ v u w, E v u w → 1 ≤ w ∧ w ≤ 319000 + (v / 648 - u / 648) * 1200000) (hB : ∀ v b, B v b → b ≤ 319000 + v / 648 * 1200000) (hD : Lab 1000000000 (fun v : Int => 0 ≤ v ∧ v < N) B E D) : ∀ v : Int, 0 ≤ v → v < N → D v < 1000000000 → D v ≤ 319000 * N + v / 648 * 1200000 := by
  have key : ∀ n : Nat, ∀ v : Int, 0 ≤ v → v < N → D v < 1000000000 → (D v).toNat < n → D v ≤ 319000 * ((cnt (fun i => decide (D (i : Nat) < D v)) N : Nat) + 1) + v / 648 * 1200000 := by
    intro n
    induction n with
    | zero => intro v _ _ _ h; exact absurd h (Nat.not_lt_zero _)
    | succ n ih =>
      intro v v0 v1 hf hn
      rcases hD.2.1 v ⟨v0, v1⟩ hf with q | ⟨u, w, q1, q2, q3, q4⟩
      · have a := hB v _ q
        omega
      · have a := hE v u w q2
        have b := (hD.2.2 u q1).1
        have c := hD.1.2 v u w q2 q3
        have d := ih u q1.1 q1.2 q3 (by omega)
        have e : ((u.toNat : Nat) : Int) = u := Int.toNat_of_nonneg q1.1
        have g := cnt_lt (P := fun i => decide (D (i : Nat) < D u)) (Q := fun i => decide (D (i : Nat) < D v)) (j := u.toNat) N (by have := q1.1; have := q1.2; omega) (fun i _ hi => by
          simp only [decide_eq_true_eq] at hi ⊢
          omega) (by simp only [e]; exact decide_eq_false (by omega)) (by simp only [e]; exact decide_eq_true (by omega))
        omega
  intro v v0 v1 hf
  have a := key _ v v0 v1 hf (Nat.lt_succ_self _)
  have e : ((v.toNat : Nat) : Int) = v := Int.toNat_of_nonneg v0
  have f := cnt_full (P := fun i => decide (D (i : Nat) < D v)) (j := v.toNat) (n := N) (by omega) (by simp only [e]; exact decide_eq_false (by omega))
  omega
/-- the class's weights and lifts -/
def WtB (L wt lf : Int → Int) : Prop := ∀ p g, inP L p → 0 ≤ g → g < 8 → (Opn L (-1) (-1) p g → wt (8 * p + g) = cx L p g * 1024 ∧ lf (8 * p + g) = stp L p g) ∧ (¬ Opn L (-1) (-1) p g → wt (8 * p + g) = -1)
theorem PR_bore {C : Int → Int} {τ : zS} (h : PR L C 0 (L 2) 1 τ) : WtB L (τ 16) (τ 17) := by
  intro p g ip g0 g1
  have a := h.2.2.2.2 p g ip g0 g1
  rw [a.1, a.2]
  unfold wgt lft
  refine ⟨fun o => ?_, fun o => by rw [cif_f o]⟩
  rw [cif_t o, kst0]
  unfold cx stp
  by_cases s : Steep L p g
  · rw [cif_t (show StG L (L 2) p g from s), if_neg (by decide), cif_t (show Opn L (-1) (-1) p g ∧ StG L (L 2) p g from ⟨o, s⟩), cif_t s, cif_t s]
    exact ⟨rfl, rfl⟩
  · rw [cif_f (show ¬ StG L (L 2) p g from s), if_neg (by decide), cif_f (show ¬ (Opn L (-1) (-1) p g ∧ StG L (L 2) p g) from fun z => s z.2), cif_f s, cif_f s]
    exact ⟨by omega, rfl⟩
theorem WtB_WB {wt lf : Int → Int} {ly : Int} (hL : GW L) (hly : 1 ≤ ly ∧ ly ≤ 4) (h : WtB L wt lf) : WB L (bwk L 0) wt lf ly := by
  have t2 : L 2 ≤ 99 := by have := hL.2.1; omega
  refine ⟨hly, fun e e0 e1 => ?_, fun p g ip g0 g1 => ?_⟩
  · have := bwt_b hL (kind := 0) e0 e1
    show 0 ≤ bwt L 0 e * 1024 ∧ bwt L 0 e * 1024 ≤ 101376
    omega
  · by_cases o : Opn L (-1) (-1) p g
    · have w := (h p g ip g0 g1).1 o
      have b := cx_b hL ip o.1
      refine Or.inr ⟨o.1, ?_, by omega, ?_⟩
      · rw [w.2]; exact stp_or L p g
      · rw [w.1, w.2]
        by_cases s : Steep L p g
        · have : stp L p g = 1 := cif_t s
          omega
        · have e0 : stp L p g = 0 := cif_f s
          have k := kst_flat (C := fun _ => 0) (kind := 0) hL (CB0 L) t2 ip o.1 (show ¬ StG L (L 2) p g from s)
          rw [kst0] at k
          have : cx L p g = cst L p g := by
            unfold cx
            rw [cif_f s]
            omega
          omega
    · exact Or.inl ((h p g ip g0 g1).2 o)
theorem bwk0 (L : Int → Int) (g h : Int) : bwk L 0 (eig g h) = bcs L g h * 1024 := by
  show bwt L 0 (eig g h) * 1024 = _
  rw [← kbn_bwt]
  unfold kbn
  rw [if_pos (Or.inl rfl)]
section TC
variable {wt lf D R : Int → Int} {N : Nat} {ly fr to_ c m : Int}
theorem bore_A (hL : GW L) (hN : (N : Int) = ly * 648) (hly : 1 ≤ ly ∧ ly ≤ 4) (ifr : inP L fr) (ito : inP L to_) (hw : WtB L wt lf) (hD : Lab 1000000000 (fun v : Int => 0 ≤ v ∧ v < N) (cBs L wt lf ly to_) (cEd L (bwk L 0) wt lf ly) D) (hR : Lab 1000000000 (fun v : Int => 0 ≤ v ∧ v < (2592 : Nat)) (rBs L fr (ly - 1)) (rEd L (ly - 1)) R) (hc : ∀ j, 0 ≤ j → j < 32 → c ≤ R (32 * to_ + j)) (hm : LkP D ly fr m) (hf : m < 1000000000) : 1024 * c ≤ m := by
  have bdR := lab_bd (M := 1103) (by decide) (fun v u w h => (rEd_b hL (by omega) h).2.2) (fun v b h => (rBs_b hL (by omega) ifr h).2.2) hR
  have opn : ∀ p g, inP L p → 0 ≤ g → g < 8 → wt (8 * p + g) ≠ -1 → Opn L (-1) (-1) p g := fun p g ip g0 g1 ne => Classical.byContradiction (fun o => ne ((hw p g ip g0 g1).2 o))
  have key : ∀ n : Nat, ∀ p g l h k, inP L p → (0 ≤ g ∧ g < 8) → (0 ≤ h ∧ h < 8) → 0 ≤ l → 0 ≤ k → k + l ≤ ly - 1 → R (32 * p + 4 * h + k) < 1000000000 → D (l * 648 + (8 * p + g)) < 1000000000 → Bnd L p h g → (D (l * 648 + (8 * p + g))).toNat < n → 1024 * c ≤ 1024 * (R (32 * p + 4 * h + k) + bcs L h g) + D (l * 648 + (8 * p + g)) := by
    intro n
    induction n with
    | zero => intro p g l h k _ _ _ _ _ _ _ _ _ z; exact absurd z (Nat.not_lt_zero _)
    | succ n ih =>
      intro p g l h k ip hg hh l0 k0 kl fR fD bd hn
      have ipb := ip.b hL
      have clR : Opn L (-1) (-1) p g → k + stp L p g ≤ ly - 1 → R (32 * bs L p g + 4 * g + (k + stp L p g)) ≤ R (32 * p + 4 * h + k) + (cx L p g + bcs L h g) := fun o hs => hR.1.2 _ _ _ ⟨p, h, g, k, ip, hh, hg, k0, o, bd, hs, rfl, rfl, rfl⟩ fR
      rcases hD.2.1 (l * 648 + (8 * p + g)) ⟨by omega, by omega⟩ fD with ⟨p', g', ip', g0', g1', hbs, hwn, hlf, ev, eb⟩ | ⟨u, w, hu, ⟨p', g', g'', l', ip', hg', hg'', l0', hb, hwn, hlf, bd', ev, eu, ew⟩, fu, hle⟩
      · have o := opn p' g' ip' g0' g1' hwn
        have w := (hw p' g' ip' g0' g1').1 o
        have so := stp_or L p' g'
        have ipb' := ip'.b hL
        have ep : p' = p := by omega
        have eg : g' = g := by omega
        subst ep eg
        have cl := clR o (by omega)
        have ml := hc (4 * g' + (k + stp L p' g')) (by omega) (by omega)
        rw [show 32 * to_ + (4 * g' + (k + stp L p' g')) = 32 * to_ + 4 * g' + (k + stp L p' g') by omega] at ml
        rw [hbs] at cl
        omega
      · have o := opn p' g' ip' hg'.1 hg'.2 hwn
        have w1 := (hw p' g' ip' hg'.1 hg'.2).1 o
        have so := stp_or L p' g'
        have ipb' := ip'.b hL
        have iqb := (bs_in hb).b hL
        have ep : p' = p := by omega
        have eg : g' = g := by omega
        subst ep eg
        subst eu
        have cb := cx_b hL ip o.1
        have bb := bcs_b hL hh.1 hh.2 hg.1 hg.2
        have cl := clR o (by omega)
        have b1 := bdR (32 * p' + 4 * h + k) (by omega) (by omega) fR
        have nn := hD.2.2 _ hu
        have bw := bwk0 L g' g''
        have r := ih (bs L p' g') g'' l' g' (k + stp L p' g') (bs_in hb) hg'' hg l0' (by omega) (by omega) (by omega) fu bd' (by
          have b2 := bcs_b hL hg.1 hg.2 hg''.1 hg''.2
          omega)
        omega
  rcases hm.2.2.2 with z | ⟨l, g, hl, hg, em⟩
  · omega
  · have ifb := ifr.b hL
    rcases hD.2.1 (l * 648 + (8 * fr + g)) ⟨by omega, by omega⟩ (by omega) with ⟨p', g', ip', g0', g1', hbs, hwn, hlf, ev, eb⟩ | ⟨u, w, hu, ⟨p', g', g'', l', ip', hg', hg'', l0', hb, hwn, hlf, bd', ev, eu, ew⟩, fu, hle⟩
    · have o := opn p' g' ip' g0' g1' hwn
      have w := (hw p' g' ip' g0' g1').1 o
      have so := stp_or L p' g'
      have ipb' := ip'.b hL
      have ep : p' = fr := by omega
      have eg : g' = g := by omega
      subst ep eg
      have cl := hR.1.1 (32 * bs L p' g' + 4 * g' + stp L p' g') (cx L p' g') ⟨g', hg, o, by omega, rfl, rfl⟩
      have ml := hc (4 * g' + stp L p' g') (by omega) (by omega)
      rw [show 32 * to_ + (4 * g' + stp L p' g') = 32 * to_ + 4 * g' + stp L p' g' by omega] at ml
      rw [hbs] at cl
      omega
    · have o := opn p' g' ip' hg'.1 hg'.2 hwn
      have w1 := (hw p' g' ip' hg'.1 hg'.2).1 o
      have so := stp_or L p' g'
      have ipb' := ip'.b hL
      have iqb := (bs_in hb).b hL
      have ep : p' = fr := by omega
      have eg : g' = g := by omega
      subst ep eg
      subst eu
      have cb := cx_b hL ifr o.1
      have cl := hR.1.1 (32 * bs L p' g' + 4 * g' + stp L p' g') (cx L p' g') ⟨g', hg, o, by omega, rfl, rfl⟩
      have bw := bwk0 L g' g''
      have r := key _ (bs L p' g') g'' l' g' (stp L p' g') (bs_in hb) hg'' hg l0' (by omega) (by omega) (by omega) fu bd' (Nat.lt_succ_self _)
      omega
theorem bore_B (hL : GW L) (hN : (N : Int) = ly * 648) (hly : 1 ≤ ly ∧ ly ≤ 4) (ifr : inP L fr) (ito : inP L to_) (hw : WtB L wt lf) (hD : Lab 1000000000 (fun v : Int => 0 ≤ v ∧ v < N) (cBs L wt lf ly to_) (cEd L (bwk L 0) wt lf ly) D) (hR : Lab 1000000000 (fun v : Int => 0 ≤ v ∧ v < (2592 : Nat)) (rBs L fr (ly - 1)) (rEd L (ly - 1)) R) {j : Int} (hj : 0 ≤ j ∧ j < 32) (hc : c = R (32 * to_ + j)) (hm : LkP D ly fr m) (hf : c < 1000000000) : m ≤ 1024 * c ∧ m < 1000000000 := by
  have hB := WtB_WB hL hly hw
  have bdD := lab_bd2 (fun v u w h => ⟨(cEd_b hL hB h).2.2.1, (cEd_b hL hB h).2.2.2.1⟩) (fun v b h => (cBs_b hL hB h).2.2) hD
  have clD : ∀ p g g' l, inP L p → (0 ≤ g ∧ g < 8) → (0 ≤ g' ∧ g' < 8) → 0 ≤ l → Opn L (-1) (-1) p g → l + stp L p g ≤ ly - 1 → Bnd L (bs L p g) g g' → D (l * 648 + (8 * bs L p g + g')) < 1000000000 → D ((l + stp L p g) * 648 + (8 * p + g)) ≤ D (l * 648 + (8 * bs L p g + g')) + (cx L p g * 1024 + bcs L g g' * 1024) ∧ D ((l + stp L p g) * 648 + (8 * p + g)) < 1000000000 := by
    intro p g g' l ip hg hg' l0 o hl bd fu
    have w1 := (hw p g ip hg.1 hg.2).1 o
    have cb := cx_b hL ip o.1
    have so := stp_or L p g
    have iqb := (bs_in o.1).b hL
    have bb := bcs_b hL hg.1 hg.2 hg'.1 hg'.2
    have a := hD.1.2 ((l + stp L p g) * 648 + (8 * p + g)) (l * 648 + (8 * bs L p g + g')) (wt (8 * p + g) + bwk L 0 (eig g g')) ⟨p, g, g', l, ip, hg, hg', l0, o.1, by omega, by omega, bd, by rw [w1.2], rfl, rfl⟩ fu
    have b := bdD (l * 648 + (8 * bs L p g + g')) (by omega) (by omega) fu
    rw [w1.1, bwk0] at a
    exact ⟨a, by omega⟩
  have key : ∀ n : Nat, ∀ p g l h k, inP L p → (0 ≤ g ∧ g < 8) → (0 ≤ h ∧ h < 8) → 0 ≤ l → 0 ≤ k → k + l ≤ ly - 1 → R (32 * p + 4 * h + k) < 1000000000 → D (l * 648 + (8 * p + g)) < 1000000000 → Bnd L p h g → (R (32 * p + 4 * h + k)).toNat < n → m ≤ 1024 * (R (32 * p + 4 * h + k) + bcs L h g) + D (l * 648 + (8 * p + g)) ∧ m < 1000000000 := by
    intro n
    induction n with
    | zero => intro p g l h k _ _ _ _ _ _ _ _ _ z; exact absurd z (Nat.not_lt_zero _)
    | succ n ih =>
      intro p g l h k ip hg hh l0 k0 kl fR fD bd hn
      have ipb := ip.b hL
      rcases hR.2.1 (32 * p + 4 * h + k) ⟨by omega, by omega⟩ fR with ⟨g1, hg1, o, hs, ev, eb⟩ | ⟨u, w, hu, ⟨p', h', g1, n', ip', hh', hg1, n0, o, bd', hs, eu, ev, ew⟩, fu, hle⟩
      · have so := stp_or L fr g1
        have iqb := (bs_in o.1).b hL
        have ep : p = bs L fr g1 := by omega
        have eg : h = g1 := by omega
        subst eg
        rw [ep] at bd fD
        have cl := clD fr h g l ifr hh hg l0 o (by omega) bd fD
        have ml := hm.2.2.1 (l + stp L fr h) h (by omega) (by omega) hh.1 hh.2
        rw [← ep] at cl
        omega
      · have so := stp_or L p' g1
        have ipb' := ip'.b hL
        have iqb := (bs_in o.1).b hL
        have ep : p = bs L p' g1 := by omega
        have eg : h = g1 := by omega
        subst eg
        subst eu
        rw [ep] at bd fD
        have cl := clD p' h g l ip' hh hg l0 o (by omega) bd fD
        have cb := cx_b hL ip' o.1
        have bb := bcs_b hL hh'.1 hh'.2 hh.1 hh.2
        have nn := hR.2.2 _ hu
        have r := ih p' h (l + stp L p' h) h' n' ip' hh hh' (by omega) n0 (by omega) fu cl.2 bd' (by omega)
        rw [← ep] at cl
        omega
  have itb := ito.b hL
  have baseD : ∀ p g, inP L p → (0 ≤ g ∧ g < 8) → Opn L (-1) (-1) p g → bs L p g = to_ → stp L p g ≤ ly - 1 → D (stp L p g * 648 + (8 * p + g)) ≤ cx L p g * 1024 := by
    intro p g ip hg o hb hs
    have w1 := (hw p g ip hg.1 hg.2).1 o
    have cb := cx_b hL ip o.1
    have a := hD.1.1 (stp L p g * 648 + (8 * p + g)) (wt (8 * p + g)) ⟨p, g, ip, hg.1, hg.2, hb, by omega, by omega, by rw [w1.2], rfl⟩
    rw [w1.1] at a
    exact a
  rcases hR.2.1 (32 * to_ + j) ⟨by omega, by omega⟩ (by omega) with ⟨g1, hg1, o, hs, ev, eb⟩ | ⟨u, w, hu, ⟨p', h', g1, n', ip', hh', hg1, n0, o, bd', hs, eu, ev, ew⟩, fu, hle⟩
  · have so := stp_or L fr g1
    have iqb := (bs_in o.1).b hL
    have ep : bs L fr g1 = to_ := by omega
    have b := baseD fr g1 ifr hg1 o ep hs
    have cb := cx_b hL ifr o.1
    have ml := hm.2.2.1 (stp L fr g1) g1 (by omega) (by omega) hg1.1 hg1.2
    omega
  · have so := stp_or L p' g1
    have iqb := (bs_in o.1).b hL
    have ep : bs L p' g1 = to_ := by omega
    have b := baseD p' g1 ip' hg1 o ep (by omega)
    have cb := cx_b hL ip' o.1
    subst eu
    have r := key _ p' g1 (stp L p' g1) h' n' ip' hg1 hh' (by omega) n0 hs fu (by omega) bd' (Nat.lt_succ_self _)
    omega
end TC
/-- the least label at a place -/
def Ca32 (d : Int → Int) (p m : Int) : Prop := 0 ≤ m ∧ m ≤ 1000000000 ∧ (∀ j, 0 ≤ j → j < 32 → m ≤ d (32 * p + j)) ∧ (m = 1000000000 ∨ ∃ j, (0 ≤ j ∧ j < 32) ∧ m = d (32 * p + j))
theorem Lk_SrN {D d : Int → Int} {N : Nat} {ly p m : Int} (hN : (N : Int) = ly * 648) (hp : 0 ≤ p ∧ p < 81) (hS : SrP N p D d) (hm : LkP d ly p m) : LkP D ly p m := by
  obtain ⟨m0, m1, hm1, hm2⟩ := hm
  obtain ⟨hlo, hs⟩ := hS
  rcases hs with q | ⟨x, hx, hxs, hxf, hxe⟩
  · refine ⟨m0, m1, fun l g l0 l1 g0 g1 => ?_, ?_⟩
    · have := hm1 l g l0 l1 g0 g1
      rw [q _ (by omega) (by omega)] at this
      exact this
    · rcases hm2 with z | ⟨l, g, hl, hg, e⟩
      · exact Or.inl z
      · exact Or.inr ⟨l, g, hl, hg, by rw [e]; exact q _ (by omega) (by omega)⟩
  · have hx1 := hm1 (x / 648) (x % 8) (by omega) (by omega) (by omega) (by omega)
    rw [show x / 648 * 648 + (8 * p + x % 8) = x by omega, hxe x hx.1 hx.2 (Int.le_refl _)] at hx1
    refine ⟨m0, m1, fun l g l0 l1 g0 g1 => ?_, ?_⟩
    · have := hm1 l g l0 l1 g0 g1
      by_cases c : D (l * 648 + (8 * p + g)) ≤ D x
      · rw [hxe _ (by omega) (by omega) c] at this
        exact this
      · omega
    · rcases hm2 with z | ⟨l, g, hl, hg, e⟩
      · exact Or.inl z
      · have lo := hlo (l * 648 + (8 * p + g)) (by omega) (by omega)
        exact Or.inr ⟨l, g, hl, hg, by rw [e]; exact hxe _ (by omega) (by omega) (by omega)⟩
/-- what a way with so many steep steps costs -/
def BoV (L : Int → Int) (fr to_ mo v : Int) : Prop := ∀ R c, Lab 1000000000 (fun v : Int => 0 ≤ v ∧ v < (2592 : Nat)) (rBs L fr mo) (rEd L mo) R → Ca32 R to_ c → v = if c = 1000000000 then -1 else c
theorem t_W_measureBored {K : Int → zS → Prop} {σ : zS} {fr to_ n : Int} (hc : CC L σ) (hL : GW L) (hW : RWs L) (hn : 0 ≤ n ∧ n ≤ 3) (ifr : inP L fr) (ito : inP L to_) (h : ∀ v τ, zQ [12, 13, 15, 16, 17, 18, 19, 20, 21, 22, 23, 24] σ τ → BoV L fr to_ n v → K v τ) : q_W_measureBored fr to_ n K σ := by
  have t2 : 0 ≤ L 2 ∧ L 2 ≤ 99 := by have := hL.2.1; omega
  unfold q_W_measureBored
  refine t_L_value (v := 2) hc (by decide) rfl (t_W_prepare hc hL hW (by decide) t2 (fun τ1 q1 _ hP => ⟨zRi (by omega) (by omega), fun s5 e5 => ?_⟩))
  have hw := PR_bore hP
  have hB := WtB_WB (ly := n + 1) hL (by omega) hw
  have q5 : zQ [15] τ1 s5 := by rw [e5]; exact zQ_U (by decide)
  have e12 : s5 15 12 = n + 1 := by rw [e5, zU_s]
  obtain ⟨p1, p2, p3, p4, p5⟩ := hP
  have hG : GS L (bwk L 0) (τ1 16) (τ1 17) (n + 1) s5 := by
    refine ⟨CC_Q (CC_Q hc q1 (by decide)) q5 (by decide), ?_, e12, ?_, ?_, ?_, ?_⟩
    · rw [e5, zU_k (by decide)]; exact p1
    · rw [q5 19 (by decide)]; exact p3
    · rw [q5 18 (by decide)]; exact p4
    · rw [q5 16 (by decide)]
    · rw [q5 17 (by decide)]
  have eN : (((n + 1) * 648).toNat : Int) = (n + 1) * 648 := Int.toNat_of_nonneg (by omega)
  refine t_W_search (N := ((n + 1) * 648).toNat) eN hG hB hL ito (fun τ2 q2 hS _ hb => t_W_left (ly := n + 1) ?_ (by omega) (ifr.b hL) (fun v a b => hb v a (by omega)) (fun m hm => h _ τ2 (zQ_t (zQ_m q1 (by decide)) (zQ_t (zQ_m q5 (by decide)) (zQ_m q2 (by decide)))) (fun R c hR hc => ?_)))
  · rw [q2 15 (by decide)]; exact e12
  · obtain ⟨D, hD⟩ := cLab_ex (N := ((n + 1) * 648).toNat) (goal := to_) (ly := n + 1) eN hL hB
    have hm2 := Lk_SrN eN (ifr.b hL) (hS D hD) hm
    have hR' : Lab 1000000000 (fun v : Int => 0 ≤ v ∧ v < (2592 : Nat)) (rBs L fr (n + 1 - 1)) (rEd L (n + 1 - 1)) R := by
      rw [show n + 1 - 1 = n by omega]; exact hR
    have m1 := hm.1
    have m2 := hm.2.1
    obtain ⟨c0, c1, c2, c3⟩ := hc
    by_cases ec : c = 1000000000
    · rw [if_pos ec]
      by_cases em : m = 1000000000
      · rw [if_pos em]
      · exfalso
        have a := bore_A hL eN (by omega) ifr ito hw hD hR' c2 hm2 (by omega)
        omega
    · rw [if_neg ec]
      obtain ⟨j, hj, ej⟩ := c3.resolve_left ec
      have b := bore_B hL eN (by omega) ifr ito hw hD hR' hj ej hm2 (by omega)
      have a := bore_A hL eN (by omega) ifr ito hw hD hR' c2 hm2 b.2
      rw [if_neg (by omega)]
      omega
end TB
