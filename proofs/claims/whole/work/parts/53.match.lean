/-! ===== the class's labels by the reference's ===== -/
def WtS (L C : Int → Int) (A B kind : Int) (wt lf : Int → Int) : Prop := ∀ p g, inP L p → 0 ≤ g → g < 8 → (Sty L A B p g → wt (8 * p + g) = kst L C kind p g * 1024 + 1 ∧ lf (8 * p + g) = 0) ∧ (¬ Sty L A B p g → wt (8 * p + g) = -1)
def bwk (L : Int → Int) (kind : Int) : Int → Int := fun e => bwt L kind e * 1024
theorem kst_flat {L C : Int → Int} (hL : GW L) (hC : CB L C) {kind n p g : Int} (hn : n ≤ 99) (hp : inP L p) (h : bs L p g ≠ -1) (hs : ¬ StG L n p g) : 0 ≤ kst L C kind p g ∧ kst L C kind p g ≤ 212 := by
  have h0 := kst_b (kind := kind) hL hC hp h
  have h1 := dif_b hL hp (bs_in h)
  have h2 := clb_b hL hp (bs_in h)
  have h3 := hC _ (bs_in h)
  have hd : dif L p (bs L p g) ≤ 13 := by
    unfold StG at hs
    rcases lng_or g with e | e <;> rw [e] at hs <;> omega
  obtain ⟨t1, t2, t3, t4, t5, t6, t7, t8, -⟩ := hL.2.1
  have h4 := mul_le (a := L 5) (b := dif L p (bs L p g)) (A := 9) (B := 13) t7 t8 h1.1 hd
  have hc : 10 ≤ cst L p g ∧ cst L p g ≤ 131 := by
    have := cst_b hL hp h
    unfold cst at this ⊢
    rcases lng_or g with e | e <;> rw [e] at this ⊢ <;> omega
  refine ⟨h0.1, ?_⟩
  unfold kst
  split
  · omega
  · split
    · rcases lng_or g with e | e <;> omega
    · split
      · omega
      · split
        · omega
        · split
          · by_cases c : Usd L p (bs L p g)
            · rw [cif_t c]; omega
            · rw [cif_f c]; omega
          · omega
theorem PR_ready {L C : Int → Int} {kind : Int} {τ : zS} (hc : CC L τ) (h : PR L C kind (L 2) 0 τ) : GS L (bwk L kind) (τ 16) (τ 17) 1 τ ∧ WtS L C (-1) (-1) kind (τ 16) (τ 17) := by
  obtain ⟨h1, h2, h3, h4, h5⟩ := h
  refine ⟨⟨hc, h1, h2, h3, h4, rfl, rfl⟩, fun p g hp g0 g1 => ?_⟩
  have a := h5 p g hp g0 g1
  rw [a.1, a.2]
  unfold wgt lft
  constructor
  · intro s
    rw [cif_t s.1, cif_f (show ¬ StG L (L 2) p g from s.2), if_pos rfl, cif_f (fun x => s.2 x.2)]
    exact ⟨rfl, rfl⟩
  · intro s
    by_cases o : Opn L (-1) (-1) p g
    · rw [cif_t o, cif_t (show StG L (L 2) p g from Classical.byContradiction (fun x => s ⟨o, x⟩)), if_pos rfl]
    · rw [cif_f o]
theorem WtS_WB {L C wt lf : Int → Int} {A B kind : Int} (hL : GW L) (hC : CB L C) (h : WtS L C A B kind wt lf) : WB L (bwk L kind) wt lf 1 ∧ W1 L (bwk L kind) wt lf := by
  have t2 : L 2 ≤ 99 := by have := hL.2.1; omega
  have key : ∀ p g, inP L p → 0 ≤ g → g < 8 → wt (8 * p + g) = -1 ∨ (Sty L A B p g ∧ wt (8 * p + g) = kst L C kind p g * 1024 + 1 ∧ lf (8 * p + g) = 0 ∧ 0 ≤ kst L C kind p g ∧ kst L C kind p g ≤ 212) := by
    intro p g hp g0 g1
    by_cases s : Sty L A B p g
    · have a := (h p g hp g0 g1).1 s
      exact Or.inr ⟨s, a.1, a.2, kst_flat hL hC t2 hp s.1.1 s.2⟩
    · exact Or.inl ((h p g hp g0 g1).2 s)
  refine ⟨⟨by decide, fun e e0 e1 => ?_, fun p g hp g0 g1 => ?_⟩, fun p g hp g0 g1 hw => ?_, fun e e0 e1 => ?_⟩
  · have := bwt_b hL (kind := kind) e0 e1
    show 0 ≤ bwt L kind e * 1024 ∧ bwt L kind e * 1024 ≤ 101376
    omega
  · rcases key p g hp g0 g1 with q | ⟨s, q1, q2, q3, q4⟩
    · exact Or.inl q
    · exact Or.inr ⟨s.1.1, Or.inl q2, by omega, by omega⟩
  · have a := (key p g hp g0 g1).resolve_left hw
    exact ⟨a.2.2.1, by omega⟩
  · show bwt L kind e * 1024 % 1024 = 0
    omega
noncomputable def De (L C : Int → Int) (A B kind : Int) (e : Int → Int) : Int → Int := fun v => cif (inP L (v / 8) ∧ Sty L A B (v / 8) (v % 8) ∧ e (8 * bs L (v / 8) (v % 8) + v % 8) < 1025000000000) (e (8 * bs L (v / 8) (v % 8) + v % 8) + (kst L C kind (v / 8) (v % 8) * 1024 + 1)) 1000000000
theorem De_at {L C : Int → Int} {A B kind : Int} {e : Int → Int} {p g : Int} (hp : inP L p) (g0 : 0 ≤ g) (g1 : g < 8) : (Sty L A B p g ∧ e (8 * bs L p g + g) < 1025000000000 → De L C A B kind e (8 * p + g) = e (8 * bs L p g + g) + (kst L C kind p g * 1024 + 1)) ∧ (¬ (Sty L A B p g ∧ e (8 * bs L p g + g) < 1025000000000) → De L C A B kind e (8 * p + g) = 1000000000) := by
  unfold De
  rw [show (8 * p + g) / 8 = p by omega, show (8 * p + g) % 8 = g by omega]
  exact ⟨fun h => cif_t ⟨hp, h⟩, fun h => cif_f (fun x => h x.2)⟩
theorem De_lab {L C wt lf : Int → Int} {A B kind to_ : Int} {e : Int → Int} (hL : GW L) (hC : CB L C) (ito : inP L to_) (hw : WtS L C A B kind wt lf) (hb : ∀ v : Int, 0 ≤ v → v < 648 → e v < 1025000000000 → e v ≤ 719954568) (h : Lab 1025000000000 (fun v : Int => 0 ≤ v ∧ v < 648) (mBs to_) (mEd L C A B kind to_) e) : Lab 1000000000 (fun v : Int => 0 ≤ v ∧ v < (648 : Nat)) (cBs L wt lf 1 to_) (cEd L (bwk L kind) wt lf 1) (De L C A B kind e) := by
  have ito2 := ito.b hL
  have e0 : ∀ g, 0 ≤ g → g < 8 → e (8 * to_ + g) = 0 := fun g g0 g1 => by
    have a := h.1.1 (8 * to_ + g) 0 ⟨g, g0, g1, rfl, rfl⟩
    have b := (h.2.2 (8 * to_ + g) ⟨by omega, by omega⟩).1
    omega
  have sty : ∀ p g, inP L p → 0 ≤ g → g < 8 → wt (8 * p + g) ≠ -1 → Sty L A B p g := fun p g hp g0 g1 hne => Classical.byContradiction (fun s => hne ((hw p g hp g0 g1).2 s))
  have bnd : ∀ p g, inP L p → 0 ≤ g → g < 8 → 0 ≤ De L C A B kind e (8 * p + g) ∧ De L C A B kind e (8 * p + g) ≤ 1000000000 ∧ (Sty L A B p g ∧ e (8 * bs L p g + g) < 1025000000000 → De L C A B kind e (8 * p + g) < 1000000000) := by
    intro p g hp g0 g1
    have a := De_at (L := L) (C := C) (A := A) (B := B) (kind := kind) (e := e) hp g0 g1
    by_cases c : Sty L A B p g ∧ e (8 * bs L p g + g) < 1025000000000
    · have k := kst_b (kind := kind) hL hC hp c.1.1.1
      have iq := (bs_in c.1.1.1).b hL
      have b := hb (8 * bs L p g + g) (by omega) (by omega) c.2
      have b2 := (h.2.2 (8 * bs L p g + g) ⟨by omega, by omega⟩).1
      rw [a.1 c]
      exact ⟨by omega, by omega, fun _ => by omega⟩
    · rw [a.2 c]
      exact ⟨by omega, by omega, fun x => absurd x c⟩
  refine ⟨⟨?_, ?_⟩, ?_, ?_⟩
  · rintro v b ⟨p, g, ip, g0, g1, hbs, hwn, hl, e1, e2⟩
    have s := sty p g ip g0 g1 hwn
    have w := (hw p g ip g0 g1).1 s
    have ez := e0 g g0 g1
    have a := (De_at (L := L) (C := C) (A := A) (B := B) (kind := kind) (e := e) ip g0 g1).1 ⟨s, by rw [hbs, ez]; decide⟩
    rw [hbs, ez] at a
    rw [show v = 8 * p + g by omega, a, e2, w.1]
    omega
  · rintro v u w ⟨p, g, g', l, ip, hg, hg', l0, hbs, hwn, hl, hbd, e1, e2, e3⟩ hfu
    have s := sty p g ip hg.1 hg.2 hwn
    have w1 := (hw p g ip hg.1 hg.2).1 s
    have iq := bs_in hbs
    have iq2 := iq.b hL
    rw [w1.2] at e1 hl
    have el : l = 0 := by omega
    subst el
    have eu : u = 8 * bs L p g + g' := by omega
    subst eu
    have c : Sty L A B (bs L p g) g' ∧ e (8 * bs L (bs L p g) g' + g') < 1025000000000 := Classical.byContradiction (fun x => by
      rw [(De_at (L := L) (C := C) (A := A) (B := B) (kind := kind) (e := e) iq hg'.1 hg'.2).2 x] at hfu
      omega)
    have a2 := (De_at (L := L) (C := C) (A := A) (B := B) (kind := kind) (e := e) iq hg'.1 hg'.2).1 c
    have k2 := kst_b (kind := kind) hL hC iq c.1.1.1
    have kb := kbn_b (kind := kind) hL hg.1 hg.2 hg'.1 hg'.2
    have iq3 := (bs_in c.1.1.1).b hL
    have nn := (h.2.2 (8 * bs L (bs L p g) g' + g') ⟨by omega, by omega⟩).1
    have bd := hb (8 * bs L (bs L p g) g' + g') (by omega) (by omega) c.2
    have cl : e (8 * bs L p g + g) ≤ e (8 * bs L (bs L p g) g' + g') + ((kst L C kind (bs L p g) g' + kbn L kind g g') * 1024 + 1) := by
      by_cases q : bs L p g = to_
      · rw [q, e0 g hg.1 hg.2, ← q]
        omega
      · exact h.1.2 _ _ _ ⟨bs L p g, g, g', iq, q, hg, hg', c.1, hbd, rfl, rfl, rfl⟩ c.2
    have a1 := (De_at (L := L) (C := C) (A := A) (B := B) (kind := kind) (e := e) ip hg.1 hg.2).1 ⟨s, by omega⟩
    rw [show v = 8 * p + g by omega, a1, a2, e3, w1.1]
    show _ ≤ _ + (_ + bwt L kind (eig g g') * 1024)
    rw [← kbn_bwt]
    omega
  · intro v hv hf
    have c : inP L (v / 8) ∧ Sty L A B (v / 8) (v % 8) ∧ e (8 * bs L (v / 8) (v % 8) + v % 8) < 1025000000000 := Classical.byContradiction (fun x => by
      unfold De at hf
      rw [cif_f x] at hf
      omega)
    have ev : v = 8 * (v / 8) + v % 8 := by omega
    generalize v / 8 = p at *
    have hg0 : 0 ≤ v % 8 := by omega
    have hg1 : v % 8 < 8 := by omega
    generalize v % 8 = g at *
    subst ev
    obtain ⟨ip, s, hfe⟩ := c
    have a1 := (De_at (L := L) (C := C) (A := A) (B := B) (kind := kind) (e := e) ip hg0 hg1).1 ⟨s, hfe⟩
    have w1 := (hw p g ip hg0 hg1).1 s
    have k1 := kst_b (kind := kind) hL hC ip s.1.1
    have iq := bs_in s.1.1
    have iq2 := iq.b hL
    by_cases q : bs L p g = to_
    · refine Or.inl ⟨p, g, ip, hg0, hg1, q, by omega, by omega, by omega, ?_⟩
      rw [a1, q, e0 g hg0 hg1, w1.1]
      omega
    · rcases h.2.1 (8 * bs L p g + g) ⟨by omega, by omega⟩ hfe with ⟨x, x0, x1, ex, -⟩ | ⟨u, w, hu, ⟨p', h', g', ip', hpt, hh', hg', s', bd, e1, e2, e3⟩, hfu, hle⟩
      · omega
      · have ep : p' = bs L p g := by omega
        have eh : h' = g := by omega
        subst ep eh
        subst e2
        have a2 := (De_at (L := L) (C := C) (A := A) (B := B) (kind := kind) (e := e) iq hg'.1 hg'.2).1 ⟨s', hfu⟩
        have b2 := (bnd _ g' iq hg'.1 hg'.2).2.2 ⟨s', hfu⟩
        refine Or.inr ⟨8 * bs L p h' + g', wt (8 * p + h') + bwk L kind (eig h' g'), ⟨by omega, by omega⟩, ⟨p, h', g', 0, ip, ⟨hg0, hg1⟩, hg', by decide, s.1.1, by omega, by omega, bd, by omega, by omega, rfl⟩, b2, ?_⟩
        rw [a1, a2, w1.1]
        show _ + (_ + bwt L kind (eig h' g') * 1024) ≤ _
        rw [← kbn_bwt]
        omega
  · intro v hv
    by_cases c : inP L (v / 8)
    · have := bnd (v / 8) (v % 8) c (by omega) (by omega)
      rw [show 8 * (v / 8) + v % 8 = v by omega] at this
      exact ⟨this.1, this.2.1⟩
    · unfold De
      rw [cif_f (fun x => c x.1)]
      omega
theorem Cn_iff {L C wt lf : Int → Int} {A B kind to_ : Int} {e : Int → Int} (hL : GW L) (hC : CB L C) (hw : WtS L C A B kind wt lf) (hb : ∀ v : Int, 0 ≤ v → v < 648 → e v < 1025000000000 → e v ≤ 719954568) (h : Lab 1025000000000 (fun v : Int => 0 ≤ v ∧ v < 648) (mBs to_) (mEd L C A B kind to_) e) {p hd g : Int} (hp : inP L p) (g0 : 0 ≤ g) (g1 : g < 8) : (CnM L A B e p hd g ↔ CnC L wt (De L C A B kind e) p hd g) ∧ (CnM L A B e p hd g → cvM L C kind e p hd g = cvC (bwk L kind) (De L C A B kind e) p hd g) := by
  have a := De_at (L := L) (C := C) (A := A) (B := B) (kind := kind) (e := e) hp g0 g1
  constructor
  · constructor
    · rintro ⟨s, b, f⟩
      have k := kst_b (kind := kind) hL hC hp s.1.1
      have iq := (bs_in s.1.1).b hL
      have bb := hb (8 * bs L p g + g) (by omega) (by omega) f
      refine ⟨?_, b, ?_⟩
      · rw [((hw p g hp g0 g1).1 s).1]
        omega
      · rw [a.1 ⟨s, f⟩]
        omega
    · rintro ⟨w, b, f⟩
      have c : Sty L A B p g ∧ e (8 * bs L p g + g) < 1025000000000 := Classical.byContradiction (fun x => by rw [a.2 x] at f; omega)
      exact ⟨c.1, b, c.2⟩
  · rintro ⟨s, b, f⟩
    unfold cvM cvC
    rw [a.1 ⟨s, f⟩]
    by_cases q : hd = -1
    · rw [if_pos q, if_pos q]
      omega
    · rw [if_neg q, if_neg q]
      show _ = _ + bwt L kind (eig hd g) * 1024
      rw [← kbn_bwt]
      omega
theorem GT_bd {B : Int → Int → Prop} {E : Int → Int → Int → Prop} {a n : Int → Int} (h : GT B E a n) : ∀ v : Int, 0 ≤ v → v < 648 → enc a n v < 1025000000000 → enc a n v ≤ 719954568 := by
  intro v v0 v1 hf
  have a' := (h.2.1 v v0 v1).2.2 hf
  have b := cnt_le (fun i => decide (enc a n (i : Nat) < 1025000000000)) 648
  omega
