/-! ===== how much a way is ===== -/
def hg (L P : Int → Int) (k : Int) : Int := hdg (L 0) (P k) (P (k + 1))
noncomputable def mtm (L C : Int → Int) (kind : Int) (P : Int → Int) (k : Nat) : Int := kst L C kind (P k) (hg L P k) + (if (k : Int) = 0 then 0 else kbn L kind (hg L P ((k : Int) - 1)) (hg L P k))
/-- from place to place beside, n places -/
def Adj (L P : Int → Int) (n : Int) : Prop := ∀ k, 0 ≤ k → k + 1 < n → inP L (P k) ∧ inP L (P (k + 1)) ∧ (0 ≤ hg L P k ∧ hg L P k < 8) ∧ bs L (P k) (hg L P k) = P (k + 1)
theorem mtm_b {L C P : Int → Int} {kind n : Int} (hL : GW L) (hC : CB L C) (hA : Adj L P n) {k : Nat} (hk : (k : Int) + 1 < n) : 0 ≤ mtm L C kind P k ∧ mtm L C kind P k ≤ 1085 := by
  have a := hA k (by omega) hk
  have b := kst_b (kind := kind) hL hC a.1 (by rw [a.2.2.2]; exact a.2.1.ne)
  unfold mtm
  split
  · omega
  · have a2 := hA ((k : Int) - 1) (by omega) (by omega)
    have c := kbn_b (kind := kind) hL a2.2.2.1.1 a2.2.2.1.2 a.2.2.1.1 a.2.2.1.2
    omega
theorem t_M_measure {K : Int → zS → Prop} {σ : zS} {L C : Int → Int} {A B kind : Int} (hm : MM L A B σ) (hL : GW L) (hR : RB L) (hCB : CB L C) (hC : kind = 5 → ∀ p, inP L p → σ 62 p = C p) (hk : 0 ≤ kind ∧ kind ≤ 5) (hn : 1 ≤ σ 41 20 ∧ σ 41 20 ≤ 700) (hA : Adj L (σ 54) (σ 41 20)) (h : K (smI (mtm L C kind (σ 54)) (σ 41 20 - 1).toNat) σ) : q_M_measure kind K σ := by
  unfold q_M_measure
  refine ⟨fun x hd k s => s = σ ∧ 1 ≤ k ∧ k ≤ σ 41 20 ∧ x = smI (mtm L C kind (σ 54)) (k - 1).toNat ∧ hd = (if k = 1 then -1 else hg L (σ 54) (k - 2)), fun _ _ k _ => (700 - k).toNat, ⟨rfl, by decide, hn.1, rfl, rfl⟩, ?_⟩
  rintro x hd k s ⟨rfl, k1, k2, hx, hh⟩ - - -
  have bnd : ∀ m : Nat, (m : Int) < s 41 20 → 0 * (m : Int) ≤ smI (mtm L C kind (s 54)) m ∧ smI (mtm L C kind (s 54)) m ≤ 1085 * m := fun m hm => smI_bd m (fun i hi => mtm_b hL hCB hA (by omega))
  refine ⟨fun c => ?_, fun c => ?_⟩
  · rw [show k = s 41 20 by omega] at hx
    rw [hx]
    exact h
  · have a := hA (k - 1) (by omega) (by omega)
    rw [show k - 1 + 1 = k by omega] at a
    have e : (((k - 1).toNat : Nat) : Int) = k - 1 := Int.toNat_of_nonneg (by omega)
    have nx : smI (mtm L C kind (s 54)) (k + 1 - 1).toNat = x + mtm L C kind (s 54) (k - 1).toNat := by
      rw [hx, show (k + 1 - 1).toNat = (k - 1).toNat + 1 by omega]
      rfl
    have b1 := bnd (k + 1 - 1).toNat (by omega)
    refine ⟨by omega, by omega, t_M_heading hm hL a.1 a.2.2.1 a.2.2.2 a.2.1.ne (t_M_stepOf (C := C) hm hL hR hCB hC hk a.1 a.2.2.1 (by rw [a.2.2.2]; exact a.2.1.ne) ⟨fun d => ?_, fun d x23 e23 => ?_⟩)⟩
    · have hk1 : k ≠ 1 := fun q => d (by rw [hh, if_pos q])
      have a2 := hA (k - 2) (by omega) (by omega)
      rw [if_neg hk1] at hh
      have eh : hd = hg L (s 54) (k - 2) := hh
      refine t_M_bendOf hm hL (by rw [eh]; exact a2.2.2.1) a.2.2.1 (fun x19 e19 => ?_)
      have ev : x19 = smI (mtm L C kind (s 54)) (k + 1 - 1).toNat := by
        rw [nx, e19]
        unfold mtm
        rw [e, if_neg (by omega), eh, show k - 1 - 1 = k - 2 by omega]
      refine ⟨⟨rfl, by omega, by omega, ev, ?_⟩, zRi (by omega) (by omega), zRi (by omega) (by omega), by dsimp only; omega⟩
      rw [if_neg (by omega), show k + 1 - 2 = k - 1 by omega]
    · have hk1 : k = 1 := by
        by_cases q : k = 1
        · exact q
        · rw [if_neg q] at hh
          have a2 := (hA (k - 2) (by omega) (by omega)).2.2.1
          omega
      have ev : x23 = smI (mtm L C kind (s 54)) (k + 1 - 1).toNat := by
        rw [nx, e23]
        unfold mtm
        rw [e, if_pos (by omega)]
      refine ⟨⟨rfl, by omega, by omega, ev, ?_⟩, zRi (by omega) (by omega), zRi (by omega) (by omega), by dsimp only; omega⟩
      rw [if_neg (by omega), show k + 1 - 2 = k - 1 by omega]
theorem Way_adj {L : Int → Int} {Cn : Int → Int → Int → Prop} {cv : Int → Int → Int → Int} {from_ to_ n : Int} {P : Int → Int} (hf : inP L from_) (hn : ∀ p h g, inP L p → Cn p h g → bs L p g ≠ -1) (h : WayP L Cn cv from_ to_ n P) : Adj L P (n + 1) ∧ (∀ k, 0 ≤ k → k ≤ n → inP L (P k)) ∧ ∃ H : Int → Int, H 0 = -1 ∧ ∀ k, 0 ≤ k → k < n → BstG L Cn cv (P k) (H k) (H (k + 1)) ∧ P (k + 1) = bs L (P k) (H (k + 1)) ∧ hg L P k = H (k + 1) := by
  obtain ⟨a1, a2, a3, a4, H, a5, a6⟩ := h
  have inn : ∀ m : Nat, (m : Int) ≤ n → inP L (P m) := by
    intro m
    induction m with
    | zero => intro _; show inP L (P 0); rw [a1]; exact hf
    | succ m ih =>
      intro hm
      have c := a6 m (by omega) (by omega)
      rw [show (((m + 1 : Nat)) : Int) = (m : Int) + 1 from rfl, c.2]
      exact bs_in (hn _ _ _ (ih (by omega)) c.1.2.1)
  have inn' : ∀ k, 0 ≤ k → k ≤ n → inP L (P k) := fun k k0 k1 => by
    have := inn k.toNat (by omega)
    rw [Int.toNat_of_nonneg k0] at this
    exact this
  have hh : ∀ k, 0 ≤ k → k < n → hg L P k = H (k + 1) := fun k k0 k1 => by
    have c := a6 k k0 k1
    unfold hg
    rw [c.2]
    exact hdg_eq c.1.1.1 c.1.1.2 (hn _ _ _ (inn' k k0 (by omega)) c.1.2.1)
  refine ⟨fun k k0 k1 => ?_, inn', H, a5, fun k k0 k1 => ⟨(a6 k k0 k1).1, (a6 k k0 k1).2, hh k k0 k1⟩⟩
  have c := a6 k k0 (by omega)
  rw [hh k k0 (by omega)]
  exact ⟨inn' k k0 (by omega), inn' (k + 1) (by omega) (by omega), c.1.1, c.2.symm⟩
theorem CnM_b {L : Int → Int} {A B : Int} {e : Int → Int} : ∀ p h g, inP L p → CnM L A B e p h g → bs L p g ≠ -1 := fun _ _ _ _ c => c.1.1.1
/-- the sum along the way is what the labels say -/
theorem Way_total {L C : Int → Int} {A B kind from_ to_ n : Int} {e P : Int → Int} (hL : GW L) (hC : CB L C) (hf : inP L from_) (ito : inP L to_) (hft : from_ ≠ to_) (hLab : Lab 1025000000000 (fun v : Int => 0 ≤ v ∧ v < 648) (mBs to_) (mEd L C A B kind to_) e) (hn : n ≤ 648) (h : WayP L (CnM L A B e) (cvM L C kind e) from_ to_ n P) : ∃ g, BstG L (CnM L A B e) (cvM L C kind e) from_ (-1) g ∧ smI (mtm L C kind P) n.toNat = cvM L C kind e from_ (-1) g / 1024 := by
  obtain ⟨hA, hin, H, H0, HH⟩ := Way_adj hf CnM_b h
  obtain ⟨p0, pn, n0, hne, -⟩ := h
  have n1 : 1 ≤ n := by
    by_cases q : n = 0
    · rw [q, p0] at pn
      exact absurd pn hft
    · omega
  have f := HH 0 (by omega) (by omega)
  rw [p0, H0] at f
  refine ⟨H (0 + 1), f.1, ?_⟩
  have key : ∀ m : Nat, (m : Int) + 1 ≤ n → smI (mtm L C kind P) (m + 1) * 1024 + ((m : Int) + 1) + e (8 * P ((m : Int) + 1) + H ((m : Int) + 1)) = cvM L C kind e from_ (-1) (H (0 + 1)) ∧ e (8 * P ((m : Int) + 1) + H ((m : Int) + 1)) < 1025000000000 := by
    intro m
    induction m with
    | zero =>
      intro _
      have e1 : smI (mtm L C kind P) (0 + 1) = kst L C kind from_ (H (0 + 1)) := by
        show (0 : Int) + mtm L C kind P 0 = _
        unfold mtm
        rw [show ((0 : Nat) : Int) = 0 from rfl, if_pos rfl, f.2.2, p0]
        omega
      rw [e1, show ((0 : Nat) : Int) = 0 from rfl, f.2.1]
      constructor
      · unfold cvM
        rw [if_pos rfl]
        omega
      · exact f.1.2.1.2.2
    | succ m ih =>
      intro hm
      obtain ⟨i1, i2⟩ := ih (by omega)
      have c := HH ((m : Int) + 1) (by omega) (by omega)
      have c0 := HH (m : Int) (by omega) (by omega)
      have ip := hin ((m : Int) + 1) (by omega) (by omega)
      have l := (lab_nxt (g := H ((m : Int) + 1 + 1)) hL hC hLab ip (hne ((m : Int) + 1) (by omega) (by omega)) c0.1.1 i2).2 c.1
      have e1 : smI (mtm L C kind P) (m + 1 + 1) = smI (mtm L C kind P) (m + 1) + (kst L C kind (P ((m : Int) + 1)) (H ((m : Int) + 1 + 1)) + kbn L kind (H ((m : Int) + 1)) (H ((m : Int) + 1 + 1))) := by
        show smI (mtm L C kind P) (m + 1) + mtm L C kind P (m + 1) = _
        unfold mtm
        rw [show (((m + 1 : Nat)) : Int) = (m : Int) + 1 from rfl, if_neg (by omega), c.2.2, show (m : Int) + 1 - 1 = m by omega, c0.2.2]
      rw [e1, show (((m + 1 : Nat)) : Int) = (m : Int) + 1 from rfl]
      unfold cvM at l
      rw [if_neg (by have := c0.1.1; omega), ← c.2.1] at l
      constructor
      · omega
      · have := c.1.2.1.2.2
        rw [← c.2.1] at this
        exact this
  have k := (key (n - 1).toNat (by omega)).1
  rw [show (((n - 1).toNat : Nat) : Int) + 1 = n by omega, show (n - 1).toNat + 1 = n.toNat by omega, pn] at k
  have c := (HH (n - 1) (by omega) (by omega)).1.1
  rw [show n - 1 + 1 = n by omega] at c
  have z : e (8 * to_ + H n) = 0 := by
    have it2 := ito.b hL
    have a := hLab.1.1 (8 * to_ + H n) 0 ⟨H n, c.1, c.2, rfl, rfl⟩
    have b := (hLab.2.2 (8 * to_ + H n) ⟨by omega, by omega⟩).1
    omega
  omega
theorem lk_lab {L bw wt lf d D : Int → Int} {from_ to_ m : Int} (hL : GW L) (hB : WB L bw wt lf 1) (ifr : inP L from_) (hS : SrP 648 from_ D d) (hD : Lab 1000000000 (fun v : Int => 0 ≤ v ∧ v < (648 : Nat)) (cBs L wt lf 1 to_) (cEd L bw wt lf 1) D) (hm : LkP d 1 from_ m) : (m = 1000000000 → ∀ g, 0 ≤ g → g < 8 → ¬ CnC L wt D from_ (-1) g) ∧ (m ≠ 1000000000 → (∃ g, (0 ≤ g ∧ g < 8) ∧ CnC L wt D from_ (-1) g) ∧ ∀ g, BstG L (CnC L wt D) (cvC bw D) from_ (-1) g → cvC bw D from_ (-1) g = m) := by
  have ifr2 := ifr.b hL
  obtain ⟨m0, m1, hm1, hm2⟩ := hm
  obtain ⟨hlo, hs⟩ := hS
  have hκ : ∃ κ, m ≤ κ ∧ (m = 1000000000 → κ = 1000000000 ∧ ∀ v : Int, 0 ≤ v → v < 648 → d v = D v) ∧ ∀ v : Int, 0 ≤ v → v < 648 → D v ≤ κ → d v = D v := by
    rcases hs with q | ⟨x, hx, hxs, hxf, hxe⟩
    · exact ⟨1000000000, m1, fun _ => ⟨rfl, q⟩, fun v v0 v1 _ => q v v0 v1⟩
    · have hx1 := hm1 0 (x % 8) (by decide) (by decide) (by omega) (by omega)
      rw [show 0 * 648 + (8 * from_ + x % 8) = x by omega] at hx1
      have := hxe x hx.1 hx.2 (Int.le_refl _)
      exact ⟨D x, by omega, fun e => by omega, hxe⟩
  obtain ⟨κ, k1, k2, k3⟩ := hκ
  constructor
  · intro e g g0 g1 hc
    have a := (k2 e).2 (8 * from_ + g) (by omega) (by omega)
    have b := hm1 0 g (by decide) (by decide) g0 g1
    rw [show 0 * 648 + (8 * from_ + g) = 8 * from_ + g by omega] at b
    have := hc.2.2
    omega
  · intro e
    obtain ⟨l, g, hl, hg, em⟩ := hm2.resolve_left e
    rw [show l * 648 + (8 * from_ + g) = 8 * from_ + g by omega] at em
    have lo := hlo (8 * from_ + g) (by omega) (by omega)
    have eD := k3 (8 * from_ + g) (by omega) (by omega) (by omega)
    have hf : D (8 * from_ + g) < 1000000000 := by omega
    have hc : CnC L wt D from_ (-1) g := ⟨lab_wt hL hD hB ifr hg.1 hg.2 hf, fun q => absurd rfl q, hf⟩
    refine ⟨⟨g, hg, hc⟩, fun g' hb => ?_⟩
    have a := hb.2.2 g hg.1 hg.2 hc
    have b := hm1 0 g' (by decide) (by decide) hb.1.1 hb.1.2
    rw [show 0 * 648 + (8 * from_ + g') = 8 * from_ + g' by omega] at b
    unfold cvC at a ⊢
    rw [if_pos rfl, if_pos rfl] at a
    rw [if_pos rfl]
    by_cases q : D (8 * from_ + g') ≤ κ
    · have := k3 _ (by have := hb.1; omega) (by have := hb.1; omega) q
      omega
    · omega
