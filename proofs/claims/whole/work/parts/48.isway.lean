/-! ===== the way that is picked ===== -/
def BstG (L : Int → Int) (Cn : Int → Int → Int → Prop) (cv : Int → Int → Int → Int) (p h g : Int) : Prop := (0 ≤ g ∧ g < 8) ∧ Cn p h g ∧ ∀ g', 0 ≤ g' → g' < 8 → Cn p h g' → cv p h g < cv p h g' ∨ (cv p h g = cv p h g' ∧ bs L p g ≤ bs L p g')
def WayP (L : Int → Int) (Cn : Int → Int → Int → Prop) (cv : Int → Int → Int → Int) (from_ to_ n : Int) (P : Int → Int) : Prop := P 0 = from_ ∧ P n = to_ ∧ 0 ≤ n ∧ (∀ k, 0 ≤ k → k < n → P k ≠ to_) ∧ ∃ H : Int → Int, H 0 = -1 ∧ ∀ k, 0 ≤ k → k < n → BstG L Cn cv (P k) (H k) (H (k + 1)) ∧ P (k + 1) = bs L (P k) (H (k + 1))
theorem Bst_uniq {L : Int → Int} {Cn Cn' : Int → Int → Int → Prop} {cv cv' : Int → Int → Int → Int} {p h g g' : Int} (hn : ∀ g, Cn p h g → bs L p g ≠ -1) (hc : ∀ g, 0 ≤ g → g < 8 → (Cn p h g ↔ Cn' p h g) ∧ (Cn p h g → cv p h g = cv' p h g)) (h1 : BstG L Cn cv p h g) (h2 : BstG L Cn' cv' p h g') : g = g' := by
  have a1 := (hc g h1.1.1 h1.1.2).1.mp h1.2.1
  have a2 := (hc g' h2.1.1 h2.1.2).1.mpr h2.2.1
  have b1 := h1.2.2 g' h2.1.1 h2.1.2 a2
  have b2 := h2.2.2 g h1.1.1 h1.1.2 a1
  rw [← (hc g h1.1.1 h1.1.2).2 h1.2.1, ← (hc g' h2.1.1 h2.1.2).2 a2] at b2
  exact bs_inj h1.1.1 h1.1.2 h2.1.1 h2.1.2 (by omega) (hn g h1.2.1)
theorem Way_uniq {L : Int → Int} {Cn Cn' : Int → Int → Int → Prop} {cv cv' : Int → Int → Int → Int} {from_ to_ n n' : Int} {P P' : Int → Int} (hf : inP L from_) (hn : ∀ p h g, inP L p → Cn p h g → bs L p g ≠ -1) (hc : ∀ p h g, inP L p → p ≠ to_ → (h = -1 ∨ (0 ≤ h ∧ h < 8)) → 0 ≤ g → g < 8 → (Cn p h g ↔ Cn' p h g) ∧ (Cn p h g → cv p h g = cv' p h g)) (h1 : WayP L Cn cv from_ to_ n P) (h2 : WayP L Cn' cv' from_ to_ n' P') : n = n' ∧ ∀ k, 0 ≤ k → k ≤ n → P k = P' k := by
  obtain ⟨a1, a2, a3, a4, H, a5, a6⟩ := h1
  obtain ⟨b1, b2, b3, b4, H', b5, b6⟩ := h2
  have key : ∀ m : Nat, (m : Int) ≤ n → (m : Int) ≤ n' → P m = P' m ∧ H m = H' m ∧ inP L (P m) ∧ (H m = -1 ∨ (0 ≤ H m ∧ H m < 8)) := by
    intro m
    induction m with
    | zero =>
      intro _ _
      refine ⟨?_, ?_, ?_, ?_⟩
      · show P 0 = P' 0
        rw [a1, b1]
      · show H 0 = H' 0
        rw [a5, b5]
      · show inP L (P 0)
        rw [a1]; exact hf
      · exact Or.inl a5
    | succ m ih =>
      intro h1 h2
      obtain ⟨i1, i2, i3, i4⟩ := ih (by omega) (by omega)
      have c1 := a6 m (by omega) (by omega)
      have c2 := b6 m (by omega) (by omega)
      have ne := a4 m (by omega) (by omega)
      rw [← i1, ← i2] at c2
      have e := Bst_uniq (hn (P m) (H m) · i3) (fun g g0 g1 => hc (P m) (H m) g i3 ne i4 g0 g1) c1.1 c2.1
      rw [show (((m + 1 : Nat)) : Int) = (m : Int) + 1 from rfl]
      refine ⟨?_, e, ?_, Or.inr c1.1.1⟩
      · rw [c1.2, c2.2, e]
      · rw [c1.2]
        exact bs_in (hn _ _ _ i3 c1.1.2.1)
  have en : n = n' := by
    by_cases q : n ≤ n'
    · by_cases q2 : n = n'
      · exact q2
      · exfalso
        have := (key n.toNat (by omega) (by omega)).1
        rw [Int.toNat_of_nonneg a3, a2] at this
        exact b4 n a3 (by omega) this.symm
    · exfalso
      have := (key n'.toNat (by omega) (by omega)).1
      rw [Int.toNat_of_nonneg b3, b2] at this
      exact a4 n' b3 (by omega) this
  refine ⟨en, fun k k0 k1 => ?_⟩
  have := (key k.toNat (by omega) (by omega)).1
  rw [Int.toNat_of_nonneg k0] at this
  exact this
/-- by the reference's labels e -/
def CnM (L : Int → Int) (A B : Int) (e : Int → Int) (p h g : Int) : Prop := Sty L A B p g ∧ (h ≠ -1 → Bnd L p h g) ∧ e (8 * bs L p g + g) < 1025000000000
noncomputable def cvM (L C : Int → Int) (kind : Int) (e : Int → Int) (p h g : Int) : Int := e (8 * bs L p g + g) + ((kst L C kind p g + (if h = -1 then 0 else kbn L kind h g)) * 1024 + 1)
theorem lab_nxt {L C : Int → Int} {A B kind to_ p h g : Int} {e : Int → Int} (hL : GW L) (hC : CB L C) (hLab : Lab 1025000000000 (fun v : Int => 0 ≤ v ∧ v < 648) (mBs to_) (mEd L C A B kind to_) e) (hp : inP L p) (hpt : p ≠ to_) (hh : 0 ≤ h ∧ h < 8) (hf : e (8 * p + h) < 1025000000000) : (∃ g, (0 ≤ g ∧ g < 8) ∧ CnM L A B e p h g) ∧ (BstG L (CnM L A B e) (cvM L C kind e) p h g → cvM L C kind e p h g = e (8 * p + h)) := by
  have hp2 := hp.b hL
  have hsp : ∃ g, (0 ≤ g ∧ g < 8) ∧ CnM L A B e p h g ∧ cvM L C kind e p h g ≤ e (8 * p + h) := by
    rcases hLab.2.1 (8 * p + h) ⟨by omega, by omega⟩ hf with ⟨x, x0, x1, e1, -⟩ | ⟨u, w, hu, ⟨p', h', g, ip, -, hh', hg, st, bd, e1, e2, e3⟩, hfu, hle⟩
    · omega
    · have ep : p' = p := by omega
      have eh : h' = h := by omega
      subst ep eh
      refine ⟨g, hg, ⟨st, fun _ => bd, by rw [← e2]; exact hfu⟩, ?_⟩
      unfold cvM
      rw [if_neg (by omega), ← e2, ← e3]
      exact hle
  obtain ⟨g1, hg1, hc1, hle1⟩ := hsp
  refine ⟨⟨g1, hg1, hc1⟩, fun hb => ?_⟩
  have a := hb.2.2 g1 hg1.1 hg1.2 hc1
  have b := hLab.1.2 (8 * p + h) (8 * bs L p g + g) _ ⟨p, h, g, hp, hpt, hh, hb.1, hb.2.1.1, hb.2.1.2.1 (by omega), rfl, rfl, rfl⟩ hb.2.1.2.2
  have c : cvM L C kind e p h g = e (8 * bs L p g + g) + ((kst L C kind p g + kbn L kind h g) * 1024 + 1) := by
    unfold cvM
    rw [if_neg (by omega)]
  omega
