/-! ===== gate ===== -/
def gtP (L : Int → Int) (fr to_ p : Int) : Prop := p ≠ fr ∧ p ≠ to_ ∧ L (94 + p) ≠ 1 ∧ ¬ Thr (up L (94 + p) 1) (-1) (-1) fr to_
def GtV (L : Int → Int) (fr to_ r : Int) : Prop := (¬ Thr L (-1) (-1) fr to_ ∧ r = -1) ∨ (Thr L (-1) (-1) fr to_ ∧ ((r = -1 ∧ ∀ p, inP L p → ¬ gtP L fr to_ p) ∨ (inP L r ∧ gtP L fr to_ r ∧ ∀ p, inP L p → p < r → ¬ gtP L fr to_ p)))
theorem GtV_uniq {L : Int → Int} {fr to_ r s : Int} (hr : GtV L fr to_ r) (hs : GtV L fr to_ s) : r = s := by
  rcases hr with ⟨a, b⟩ | ⟨a, b⟩
  · rcases hs with ⟨c, d⟩ | ⟨c, d⟩
    · omega
    · exact absurd c a
  · rcases hs with ⟨c, d⟩ | ⟨c, d⟩
    · exact absurd a c
    · rcases b with ⟨b1, b2⟩ | ⟨b1, b2, b3⟩
      · rcases d with ⟨d1, d2⟩ | ⟨d1, d2, d3⟩
        · omega
        · exact absurd d2 (b2 s d1)
      · rcases d with ⟨d1, d2⟩ | ⟨d1, d2, d3⟩
        · exact absurd b2 (d2 r b1)
        · by_cases q : r < s
          · exact absurd b2 (d3 r b1 q)
          · by_cases q2 : s < r
            · exact absurd d2 (b3 s d1 q2)
            · omega
theorem wet_bs {L : Int → Int} {p : Int} (hp : 0 ≤ p) (x g : Int) : bs (up L (94 + p) 1) x g = bs L x g := by
  show bes _ _ _ _ = bes _ _ _ _
  rw [up_o (by omega), up_o (by omega)]
theorem wet_in {L : Int → Int} {p : Int} (hp : 0 ≤ p) (x : Int) : inP (up L (94 + p) 1) x ↔ inP L x := by
  unfold inP
  rw [up_o (by omega), up_o (by omega)]
theorem wet_Bnd {L : Int → Int} {p : Int} (hL : GW L) (hp : 0 ≤ p ∧ p < 81) {x g h : Int} (ix : inP L x) : Bnd (up L (94 + p) 1) x g h ↔ Bnd L x g h := by
  have ixb := ix.b hL
  unfold Bnd Flt
  rw [up_o (show (3 : Int) ≠ 94 + p by omega), up_o (show (4 : Int) ≠ 94 + p by omega)]
  have ed : ∀ y, bs L x y ≠ -1 → dif (up L (94 + p) 1) x (bs L x y) = dif L x (bs L x y) := fun y hb => by
    have := (bs_in hb).b hL
    unfold dif
    rw [up_o (by omega), up_o (by omega)]
  refine or_congr Iff.rfl ⟨fun f y y0 y1 hb => ?_, fun f y y0 y1 hb => ?_⟩
  · have := f y y0 y1 (by rw [wet_bs hp.1]; exact hb)
    rw [wet_bs hp.1, ed y hb] at this
    exact this
  · rw [wet_bs hp.1] at hb ⊢
    rw [ed y hb]
    exact f y y0 y1 hb
theorem wet_Sty {L : Int → Int} {p x g : Int} (hL : GW L) (hp : 0 ≤ p ∧ p < 81) (ix : inP L x) (h : Sty L (-1) (-1) x g) (h1 : x ≠ p) (h2 : bs L x g ≠ p) (h3 : g % 2 ≠ 0 → bs L x (g - 1) ≠ p ∧ bs L x ((g + 1) % 8) ≠ p) : Sty (up L (94 + p) 1) (-1) (-1) x g := by
  obtain ⟨⟨a1, a2, a3, a4, a5, a6⟩, a7⟩ := h
  have ixb := ix.b hL
  have ib := (bs_in a1).b hL
  refine ⟨⟨?_, ?_, ?_, ?_, ?_, ?_⟩, ?_⟩
  · rw [wet_bs hp.1]; exact a1
  · rw [up_o (by omega)]; exact a2
  · rw [wet_bs hp.1, up_o (by omega)]; exact a3
  · rw [wet_bs hp.1]; exact a4
  · rw [wet_bs hp.1]; exact a5
  · rw [wet_bs hp.1, wet_bs hp.1]
    by_cases ho : g % 2 = 0
    · exact Or.inl ho
    · obtain ⟨b1, b2⟩ := h3 ho
      rw [up_o (by omega), up_o (by omega)]
      exact a6
  · unfold Steep at a7 ⊢
    rw [wet_bs hp.1, up_o (show (2 : Int) ≠ 94 + p by omega)]
    unfold dif at a7 ⊢
    rw [up_o (by omega), up_o (by omega)]
    exact a7
/-- a way that does not touch a place is there without it -/
theorem thr_path {L P H : Int → Int} {fr to_ p n : Int} (hL : GW L) (hp : 0 ≤ p ∧ p < 81) (hA : Adj L P n) (hn : 2 ≤ n) (p0 : P 0 = fr) (pn : P (n - 1) = to_) (hS : ∀ k, 0 ≤ k → k + 1 < n → Sty L (-1) (-1) (P k) (hg L P k)) (hB : ∀ k, 0 < k → k + 1 < n → Bnd L (P k) (hg L P (k - 1)) (hg L P k)) (hf : fr ≠ p) (hT : ∀ k, 0 ≤ k → k + 1 < n → P (k + 1) ≠ p ∧ (hg L P k % 2 ≠ 0 → bs L (P k) (hg L P k - 1) ≠ p ∧ bs L (P k) ((hg L P k + 1) % 8) ≠ p)) : Thr (up L (94 + p) 1) (-1) (-1) fr to_ := by
  have stp : ∀ k, 0 ≤ k → k + 1 < n → Sty (up L (94 + p) 1) (-1) (-1) (P k) (hg L P k) := fun k k0 k1 => by
    have a := hA k k0 k1
    have t := hT k k0 k1
    refine wet_Sty hL hp a.1 (hS k k0 k1) ?_ (by rw [a.2.2.2]; exact t.1) t.2
    by_cases z : k = 0
    · rw [z, p0]; exact hf
    · have := (hT (k - 1) (by omega) (by omega)).1
      rw [show k - 1 + 1 = k by omega] at this
      exact this
  have key : ∀ m : Nat, (m : Int) + 1 < n → NRn (up L (94 + p) 1) (wS (up L (94 + p) 1) (-1) (-1)) fr m (P m) (hg L P m) := by
    intro m
    induction m with
    | zero =>
      intro hm
      have a := hA 0 (by omega) (by omega)
      exact ⟨p0, (wS_at a.2.2.1.1 a.2.2.1.2).mpr (stp 0 (by omega) (by omega))⟩
    | succ m ih =>
      intro hm
      have a := hA (m : Int) (by omega) (by omega)
      have a' := hA ((m : Int) + 1) (by omega) (by omega)
      rw [show (((m + 1 : Nat)) : Int) = (m : Int) + 1 from rfl]
      refine Or.inr ⟨P m, hg L P m, (wet_in hp.1 _).mpr a.1, a.2.2.1, ih (by omega), ?_, ?_, ?_⟩
      · rw [wet_bs hp.1]; exact a.2.2.2.symm
      · exact (wS_at a'.2.2.1.1 a'.2.2.1.2).mpr (stp ((m : Int) + 1) (by omega) (by omega))
      · have := hB ((m : Int) + 1) (by omega) (by omega)
        rw [show (m : Int) + 1 - 1 = m by omega] at this
        exact (wet_Bnd hL hp a'.1).mpr this
  have a := hA (n - 2) (by omega) (by omega)
  have k := key (n - 2).toNat (by omega)
  rw [Int.toNat_of_nonneg (by omega)] at k
  refine ⟨P (n - 2), hg L P (n - 2), (wet_in hp.1 _).mpr a.1, a.2.2.1, ⟨_, k⟩, ?_⟩
  rw [wet_bs hp.1, a.2.2.2, show n - 2 + 1 = n - 1 by omega, pn]
/-- the class's labels know whether there is a way -/
theorem lab_thr {L C wt lf D : Int → Int} {kind fr to_ : Int} (hL : GW L) (hC : CB L C) (ifr : inP L fr) (ito : inP L to_) (hw : WtS L C (-1) (-1) kind wt lf) (hD : Lab 1000000000 (fun v : Int => 0 ≤ v ∧ v < (648 : Nat)) (cBs L wt lf 1 to_) (cEd L (bwk L kind) wt lf 1) D) : (∃ g, (0 ≤ g ∧ g < 8) ∧ CnC L wt D fr (-1) g) ↔ Thr L (-1) (-1) fr to_ := by
  obtain ⟨hB, h1⟩ := WtS_WB hL hC hw
  have hwt : ∀ p g, inP L p → 0 ≤ g → g < 8 → (wt (8 * p + g) ≠ -1 ↔ Sty L (-1) (-1) p g) := fun p g ip g0 g1 => by
    constructor
    · exact fun x => Classical.byContradiction (fun s => x ((hw p g ip g0 g1).2 s))
    · intro s
      have := kst_b (kind := kind) hL hC ip s.1.1
      rw [((hw p g ip g0 g1).1 s).1]
      omega
  have tof := Thr_of (L := L) (M := L) (wt := wt) (A := -1) (B := -1) (fr := fr) (q := to_) rfl rfl (fun _ _ _ _ => Iff.rfl) hwt
  have bdD := lab_bd (M := 319000) (by decide) (fun v u w h => by have a := cEd_b hL hB h; exact ⟨a.2.2.1, by have := a.1; have := a.2.1; omega⟩) (fun v b h => by have a := cBs_b hL hB h; have := a.1; omega) hD
  rw [← tof]
  constructor
  · rintro ⟨g, hg, hc⟩
    have key : ∀ n : Nat, ∀ p g, inP L p → (0 ≤ g ∧ g < 8) → NR L wt fr p g → D (8 * p + g) < 1000000000 → (D (8 * p + g)).toNat < n → ∃ p g, inP L p ∧ (0 ≤ g ∧ g < 8) ∧ NR L wt fr p g ∧ bs L p g = to_ := by
      intro n
      induction n with
      | zero => intro p g _ _ _ _ z; exact absurd z (Nat.not_lt_zero _)
      | succ n ih =>
        intro p g ip hg hr hf hn
        have ipb := ip.b hL
        have hwn := lab_wt hL hD hB ip hg.1 hg.2 hf
        by_cases z : bs L p g = to_
        · exact ⟨p, g, ip, hg, hr, z⟩
        · obtain ⟨⟨g', hg', hc', hv'⟩, -⟩ := lab_nxtC hL hB h1 hD ip hg.1 hg.2 hwn hf z
          have hwb := (hB.2.2 p g ip hg.1 hg.2).resolve_left hwn
          have iq := bs_in hwb.1
          have iqb := iq.b hL
          have ee := eig_b hg.1 hg.2 hg'.1 hg'.2
          have bb := hB.2.1 _ ee.1 ee.2
          unfold cvC at hv'
          rw [if_neg (by omega)] at hv'
          have nn := (hD.2.2 (8 * bs L p g + g') ⟨by omega, by omega⟩).1
          obtain ⟨m, hm⟩ := hr
          exact ih (bs L p g) g' iq hg' ⟨m + 1, Or.inr ⟨p, g, ip, hg, hm, rfl, hc'.1, hc'.2.1 (by omega)⟩⟩ hc'.2.2 (by omega)
    exact key _ fr g ifr hg ⟨0, rfl, hc.1⟩ hc.2.2 (Nat.lt_succ_self _)
  · rintro ⟨p, g, ip, hg, ⟨n, hr⟩, e⟩
    have wn : ∀ n p g, NRn L wt fr n p g → wt (8 * p + g) ≠ -1 := by
      intro n
      induction n with
      | zero => exact fun p g z => z.2
      | succ n ih => exact fun p g z => z.elim (ih p g) (fun ⟨_, _, _, _, _, _, w, _⟩ => w)
    have key : ∀ n p g, inP L p → (0 ≤ g ∧ g < 8) → NRn L wt fr n p g → D (8 * p + g) < 1000000000 → ∃ g, (0 ≤ g ∧ g < 8) ∧ CnC L wt D fr (-1) g := by
      intro n
      induction n with
      | zero =>
        rintro p g ip hg ⟨rfl, hw'⟩ hf
        exact ⟨g, hg, hw', fun z => absurd rfl z, hf⟩
      | succ n ih =>
        intro p g ip hg hr hf
        rcases hr with hr | ⟨p0, g0, ip0, hg0, hr, ep, hw', bd⟩
        · exact ih p g ip hg hr hf
        · have w0 := wn n p0 g0 hr
          have hwb := (hB.2.2 p0 g0 ip0 hg0.1 hg0.2).resolve_left w0
          have lf0 := (h1.1 p0 g0 ip0 hg0.1 hg0.2 w0).1
          have ipb := ip.b hL
          have ip0b := ip0.b hL
          have ee := eig_b hg0.1 hg0.2 hg.1 hg.2
          have bb := hB.2.1 _ ee.1 ee.2
          have bd2 := bdD (8 * p + g) (by omega) (by omega) hf
          have := hD.1.2 (8 * p0 + g0) (8 * p + g) (wt (8 * p0 + g0) + bwk L kind (eig g0 g)) ⟨p0, g0, g, 0, ip0, hg0, hg, by decide, hwb.1, w0, by omega, by rw [← ep]; exact bd, by omega, by rw [← ep]; omega, rfl⟩ hf
          exact ih p0 g0 ip0 hg0 hr (by omega)
    have w0 := wn n p g hr
    have hwb := (hB.2.2 p g ip hg.1 hg.2).resolve_left w0
    have lf0 := (h1.1 p g ip hg.1 hg.2 w0).1
    have := hD.1.1 (8 * p + g) (wt (8 * p + g)) ⟨p, g, ip, hg.1, hg.2, e, w0, by omega, by omega, rfl⟩
    exact key n p g ip hg hr (by omega)
