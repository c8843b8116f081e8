/-! ===== stages ===== -/
/-- the steps from k on can be cut into l stages of at most m; f holds the lengths up to a place -/
def Ft (f : Int → Int) (S m : Int) : Nat → Int → Prop
  | 0, k => k = S
  | l + 1, k => ∃ j, k < j ∧ j ≤ S ∧ f j - f k ≤ m ∧ Ft f S m l j
def TP (f : Int → Int) : Prop := f 0 = 0 ∧ ∀ i j : Int, 0 ≤ i → i ≤ j → 10 * (j - i) ≤ f j - f i ∧ f j - f i ≤ 14 * (j - i)
theorem Ft_mono {f : Int → Int} {S m m' : Int} (h : m ≤ m') : ∀ (l : Nat) (k : Int), Ft f S m l k → Ft f S m' l k
  | 0, _, e => e
  | l + 1, _, ⟨j, j1, j2, j3, j4⟩ => ⟨j, j1, j2, by omega, Ft_mono h l j j4⟩
theorem Ft_le {f : Int → Int} {S m : Int} : ∀ (l : Nat) (k : Int), Ft f S m l k → k + l ≤ S
  | 0, k, e => by
    have : k = S := e
    omega
  | l + 1, k, ⟨j, j1, j2, j3, j4⟩ => by
    have := Ft_le l j j4
    omega
theorem Ft_split {f : Int → Int} {S m : Int} (hf : TP f) : ∀ (l : Nat) (k : Int), 0 ≤ k → Ft f S m l k → k + l < S → Ft f S m (l + 1) k
  | 0, k, _, e, h => by
    have : k = S := e
    omega
  | l + 1, k, k0, ⟨j, j1, j2, j3, j4⟩, h => by
    by_cases e : j = k + 1
    · exact ⟨j, j1, j2, j3, Ft_split hf l j (by omega) j4 (by omega)⟩
    · have a := hf.2 k (k + 1) k0 (by omega)
      have b := hf.2 (k + 1) j (by omega) (by omega)
      exact ⟨k + 1, by omega, by omega, by omega, j, by omega, j2, by omega, j4⟩
theorem Ft_more {f : Int → Int} {S m k : Int} (hf : TP f) {c : Nat} (h : Ft f S m c k) (hk : 0 ≤ k) : ∀ l : Nat, c ≤ l → k + l ≤ S → Ft f S m l k
  | 0, hc, _ => by
    rw [show c = 0 by omega] at h
    exact h
  | l + 1, hc, hl => by
    by_cases e : c = l + 1
    · rw [← e]
      exact h
    · exact Ft_split hf l k hk (Ft_more hf h hk l (by omega) (by omega)) (by omega)
/-- the least number of which something holds, 1000000000 if there is none -/
def Lst (Q : Int → Prop) (v : Int) : Prop := (v = 1000000000 ∧ ∀ m, 0 ≤ m → ¬ Q m) ∨ (0 ≤ v ∧ v < 1000000000 ∧ Q v ∧ ∀ m, 0 ≤ m → Q m → v ≤ m)
theorem Lst_uniq {Q : Int → Prop} {v w : Int} (h1 : Lst Q v) (h2 : Lst Q w) : v = w := by
  rcases h1 with ⟨a, b⟩ | ⟨a, b, c, d⟩
  · rcases h2 with ⟨a', b'⟩ | ⟨a', b', c', d'⟩
    · omega
    · exact absurd c' (b w a')
  · rcases h2 with ⟨a', b'⟩ | ⟨a', b', c', d'⟩
    · exact absurd c (b' v a)
    · have := d w a' c'
      have := d' v a c
      omega
theorem Lst_b {Q : Int → Prop} {v : Int} (h : Lst Q v) : 0 ≤ v ∧ v ≤ 1000000000 := by
  rcases h with h | h
  · have := h.1
    omega
  · have := h.1
    have := h.2.1
    omega
theorem Lst_step {Q P R : Int → Prop} {b v x c : Int} (hQ : Lst Q b) (hP : Lst P v) (mono : ∀ m m', m ≤ m' → P m → P m') (x0 : 0 ≤ x) (x1 : x < 1000000000) (hq : ∀ m, R m ↔ Q m ∨ (x ≤ m ∧ P m)) (hc : (v ≤ x ∧ c = x) ∨ (x < v ∧ c = v)) : Lst R (if b < c then b else c) := by
  rcases hP with ⟨ev, nP⟩ | ⟨v0, v1, pv, lv⟩
  · rcases hQ with ⟨eb, nQ⟩ | ⟨b0, b1, qb, lb⟩
    · rw [if_neg (by omega)]
      exact Or.inl ⟨by omega, fun m m0 z => ((hq m).mp z).elim (nQ m m0) (fun w => nP m m0 w.2)⟩
    · rw [if_pos (by omega)]
      exact Or.inr ⟨b0, b1, (hq b).mpr (Or.inl qb), fun m m0 z => ((hq m).mp z).elim (lb m m0) (fun w => absurd w.2 (nP m m0))⟩
  · have rc : R c := (hq c).mpr (Or.inr ⟨by omega, mono v c (by omega) pv⟩)
    have lc : ∀ m, 0 ≤ m → (x ≤ m ∧ P m) → c ≤ m := fun m m0 z => by
      have := lv m m0 z.2
      have := z.1
      omega
    rcases hQ with ⟨eb, nQ⟩ | ⟨b0, b1, qb, lb⟩
    · rw [if_neg (by omega)]
      exact Or.inr ⟨by omega, by omega, rc, fun m m0 z => ((hq m).mp z).elim (fun w => absurd w (nQ m m0)) (lc m m0)⟩
    · by_cases lt : b < c
      · rw [if_pos lt]
        exact Or.inr ⟨b0, b1, (hq b).mpr (Or.inl qb), fun m m0 z => ((hq m).mp z).elim (lb m m0) (fun w => by have := lc m m0 w; omega)⟩
      · rw [if_neg lt]
        exact Or.inr ⟨by omega, by omega, rc, fun m m0 z => ((hq m).mp z).elim (fun w => by have := lb m m0 w; omega) (lc m m0)⟩
/-- how long a road is up to a place of it -/
def lnT (L : Int → Int) (r : Int) (k : Int) : Int := sI (fun i => lng (rhd L r i)) k
theorem lnT_s (L : Int → Int) (r : Int) {k : Int} (h : 0 ≤ k) : lnT L r (k + 1) = lnT L r k + lng (rhd L r k) := sI_s _ h
theorem lnT_b (L : Int → Int) (r : Int) {i : Int} (h : 0 ≤ i) : ∀ n : Nat, 10 * (n : Int) ≤ lnT L r (i + n) - lnT L r i ∧ lnT L r (i + n) - lnT L r i ≤ 14 * (n : Int)
  | 0 => by
    rw [show i + ((0 : Nat) : Int) = i by omega]
    omega
  | n + 1 => by
    have a := lnT_b L r h n
    have b := lnT_s L r (k := i + n) (by omega)
    rw [show i + ((n + 1 : Nat) : Int) = i + n + 1 by omega, b]
    rcases lng_or (rhd L r (i + n)) with e | e <;> omega
theorem lnT_TP (L : Int → Int) (r : Int) : TP (lnT L r) := by
  refine ⟨rfl, fun i j i0 ij => ?_⟩
  have := lnT_b L r i0 (j - i).toNat
  rw [Int.toNat_of_nonneg (by omega), show i + (j - i) = j by omega] at this
  exact this
/-- what the reference remembers of stages -/
def MI (f : Int → Int) (S : Int) (s : zS) : Prop := ∀ (k : Int) (l : Nat), 0 ≤ k → k < 40 → l ≤ 6 → s 61 (7 * k + l) = -1 ∨ Lst (fun m => Ft f S m l k) (s 61 (7 * k + l))
theorem t_M_stagesFrom {L : Int → Int} {r A B : Int} (hL : GW L) (hr : 0 ≤ r ∧ r < 4) (hw : RW L r) (nz : L (175 + 81 * r) ≠ 0) : ∀ (d l : Nat) (k left : Int) (K : Int → zS → Prop) (σ : zS), left = l → l < d → l ≤ 6 → 0 ≤ k → k ≤ L (175 + 81 * r) - 1 → MM L A B σ → MI (lnT L r) (L (175 + 81 * r) - 1) σ → (∀ v τ, zQ [61] σ τ → MI (lnT L r) (L (175 + 81 * r) - 1) τ → Lst (fun m => Ft (lnT L r) (L (175 + 81 * r) - 1) m l k) v → K v τ) → q_M_stagesFrom d r k left K σ := by
  have hRW := hw.resolve_left nz
  have hT := (lnT_TP L r).2
  intro d
  induction d with
  | zero => intro l k left K σ el ld; omega
  | succ d ih =>
    intro l k left K σ el ld l6 k0 k1 hm hM h
    unfold q_M_stagesFrom
    refine t_M_many hm hr (fun x3 e3 => ⟨fun ne => ?_, fun e => ?_⟩)
    · obtain ⟨l', rfl⟩ : ∃ l', l = l' + 1 := ⟨l - 1, by omega⟩
      intro x5 e5
      have ex : x5 = 7 * k + ((l' + 1 : Nat) : Int) := by omega
      refine ⟨by omega, fun hmin => ?_, fun hne => ?_⟩
      · refine ⟨fun best sum j s => zQ [61] σ s ∧ MI (lnT L r) (L (175 + 81 * r) - 1) s ∧ k ≤ j ∧ j ≤ L (175 + 81 * r) - 1 ∧ sum = lnT L r j - lnT L r k ∧ Lst (fun m => ∃ i, k < i ∧ i ≤ j ∧ lnT L r i - lnT L r k ≤ m ∧ Ft (lnT L r) (L (175 + 81 * r) - 1) m l' i) best, fun _ _ j _ => (40 - j).toNat, ⟨zQ_r _ _, hM, by omega, k1, by omega, Or.inl ⟨rfl, fun m _ z => by obtain ⟨i, i1, i2, -⟩ := z; omega⟩⟩, ?_⟩
        rintro best sum j s ⟨hq, hMs, j0, j1, es, hI⟩ - - -
        refine ⟨zRi (by omega) (by omega), fun e s15 e15 => ?_, fun e => ?_⟩
        · have hv : Lst (fun m => Ft (lnT L r) (L (175 + 81 * r) - 1) m (l' + 1) k) best := by
            rw [show j = L (175 + 81 * r) - 1 by omega] at hI
            exact hI
          refine h best s15 (by rw [e15]; exact zQ_t hq (zQ_U (by decide))) (fun k2 l2 a1 a2 a3 => ?_) hv
          rw [e15, zU_if]
          by_cases ei : 7 * k2 + (l2 : Int) = x5
          · rw [if_pos ei]
            have ek : k2 = k := by omega
            have el2 : l2 = l' + 1 := by omega
            rw [ek, el2]
            exact Or.inr hv
          · rw [if_neg ei]
            exact hMs k2 l2 a1 a2 a3
        · have hms := MM_Q hm hq (by decide)
          have hd := hw.hd (show 0 ≤ j by omega) (show j + 1 < L (175 + 81 * r) by omega)
          have b1 := hT k (j + 1) k0 (by omega)
          have b2 := lnT_s L r (show 0 ≤ j by omega)
          refine t_M_stepHeading hms hL hr hw (by omega) (by omega) (by omega) (t_M_longOf hd.1 (fun x20 e20 => ⟨zRi (by omega) (by omega), zRi (by omega) (by omega), ih l' (j + 1) (left - 1) _ s (by omega) (by omega) (by omega) (by omega) (by omega) hms hMs (fun v τ qt hMt hv => ?_)⟩))
          have ex20 : x20 = lnT L r (j + 1) - lnT L r k := by omega
          have st : ∀ c, ((v ≤ x20 ∧ c = x20) ∨ (x20 < v ∧ c = v)) → (zQ [61] σ τ ∧ MI (lnT L r) (L (175 + 81 * r) - 1) τ ∧ k ≤ j + 1 ∧ j + 1 ≤ L (175 + 81 * r) - 1 ∧ x20 = lnT L r (j + 1) - lnT L r k ∧ Lst (fun m => ∃ i, k < i ∧ i ≤ j + 1 ∧ lnT L r i - lnT L r k ≤ m ∧ Ft (lnT L r) (L (175 + 81 * r) - 1) m l' i) (if best < c then best else c)) ∧ (40 - (j + 1)).toNat < (40 - j).toNat := by
            intro c hc
            refine ⟨⟨zQ_t hq qt, hMt, by omega, by omega, ex20, Lst_step hI hv (fun m m' hmm z => Ft_mono hmm l' (j + 1) z) (by omega) (by omega) (fun m => ⟨?_, ?_⟩) hc⟩, by omega⟩
            · rintro ⟨i, i1, i2, i3, i4⟩
              by_cases ei : i = j + 1
              · rw [ei] at i3 i4
                exact Or.inr ⟨by omega, i4⟩
              · exact Or.inl ⟨i, i1, by omega, i3, i4⟩
            · rintro (⟨i, i1, i2, i3, i4⟩ | ⟨z1, z2⟩)
              · exact ⟨i, i1, by omega, i3, i4⟩
              · exact ⟨j + 1, by omega, by omega, by omega, z2⟩
          exact ⟨zRi (by omega) (by omega), fun le => t_M_lesser (st x20 (Or.inl ⟨le, rfl⟩)), fun lt => t_M_lesser (st v (Or.inr ⟨lt, rfl⟩))⟩
      · rw [ex] at hne ⊢
        exact h _ σ (zQ_r _ _) hM ((hM k (l' + 1) k0 (by omega) l6).resolve_left hne)
    · have l0 : l = 0 := by omega
      refine ⟨zRi (by omega) (by omega), fun ne => h _ σ (zQ_r _ _) hM ?_, fun e1 => h _ σ (zQ_r _ _) hM ?_⟩
      · rw [l0]
        exact Or.inl ⟨rfl, fun m _ z => ne (Eq.trans (show k = L (175 + 81 * r) - 1 from z) e3.symm)⟩
      · rw [l0]
        exact Or.inr ⟨by decide, by decide, show k = L (175 + 81 * r) - 1 from e1.trans e3, fun m m0 _ => m0⟩
theorem t_U_longTogether {K : Int → zS → Prop} {σ : zS} {L : Int → Int} {r : Int} (hc : CC L σ) (hL : GW L) (hr : 0 ≤ r ∧ r < 4) (hw : RW L r) (nz : L (175 + 81 * r) ≠ 0) (h : K (lnT L r (L (175 + 81 * r) - 1)) σ) : q_U_longTogether r K σ := by
  have hRW := hw.resolve_left nz
  unfold q_U_longTogether q_U_steps
  refine ⟨fun v j s => s = σ ∧ 0 ≤ j ∧ j ≤ L (175 + 81 * r) - 1 ∧ v = lnT L r j, fun _ j _ => (40 - j).toNat, ⟨rfl, by decide, by omega, rfl⟩, ?_⟩
  rintro v j s ⟨rfl, j0, j1, ev⟩ - -
  refine t_L_roadSize hc hr ⟨zRi (by omega) (by omega), fun e => ?_, fun e => ?_⟩
  · rw [ev, show j = L (175 + 81 * r) - 1 by omega]
    exact h
  · have b1 := (lnT_TP L r).2 0 (j + 1) (by decide) (by omega)
    have b2 := lnT_s L r j0
    have b3 := (lnT_TP L r).1
    exact t_L_roadHeading hc hL hr hw j0 (by omega) (by omega) (t_R_longOf (fun x ex => ⟨⟨rfl, by omega, by omega, by omega⟩, zRi (by omega) (by omega), zRi (by omega) (by omega), by dsimp only; omega⟩))
theorem t_U_partsWithin {K : Int → zS → Prop} {σ : zS} {L : Int → Int} {r most : Int} (hc : CC L σ) (hL : GW L) (hr : 0 ≤ r ∧ r < 4) (hw : RW L r) (nz : L (175 + 81 * r) ≠ 0) (hmo : 0 ≤ most) (h : ∀ c : Int, (∀ l : Nat, 1 ≤ l → l ≤ 6 → (l : Int) ≤ L (175 + 81 * r) - 1 → (c ≤ l ↔ Ft (lnT L r) (L (175 + 81 * r) - 1) most l 0)) → K c σ) : q_U_partsWithin r most K σ := by
  have hRW := hw.resolve_left nz
  have hT := lnT_TP L r
  unfold q_U_partsWithin q_U_steps
  refine ⟨fun c cur j s => s = σ ∧ 0 ≤ j ∧ j ≤ L (175 + 81 * r) - 1 ∧ 1 ≤ c ∧ c ≤ j + 1 ∧ 0 ≤ cur ∧ cur ≤ 14 * j ∧ cur ≤ most ∧ (∀ (l : Nat) (i : Int), j ≤ i → i ≤ L (175 + 81 * r) - 1 → 0 < i → cur + (lnT L r i - lnT L r j) ≤ most → Ft (lnT L r) (L (175 + 81 * r) - 1) most l i → Ft (lnT L r) (L (175 + 81 * r) - 1) most (l + c.toNat) 0) ∧ (∀ l : Nat, 1 ≤ l → Ft (lnT L r) (L (175 + 81 * r) - 1) most l 0 → ∃ (p : Nat) (q i : Int), p ≤ l ∧ (c < p ∨ (c = p ∧ cur ≤ q)) ∧ 0 ≤ q ∧ j ≤ i ∧ i ≤ L (175 + 81 * r) - 1 ∧ q + (lnT L r i - lnT L r j) ≤ most ∧ Ft (lnT L r) (L (175 + 81 * r) - 1) most (l - p) i), fun _ _ j _ => (40 - j).toNat, ⟨rfl, by decide, by omega, by decide, by decide, by decide, by decide, hmo, fun l i i0 i1 i2 i3 i4 => ?_, fun l l1 hl => ?_⟩, ?_⟩
  · exact ⟨i, i2, i1, by omega, i4⟩
  · obtain ⟨l', rfl⟩ : ∃ l', l = l' + 1 := ⟨l - 1, by omega⟩
    obtain ⟨j, j1, j2, j3, j4⟩ := hl
    exact ⟨1, 0, j, by omega, Or.inr ⟨rfl, by decide⟩, by decide, by omega, j2, by omega, j4⟩
  rintro c cur j s ⟨rfl, j0, j1, c1, c2, u0, u1, u2, hA, hB⟩ - - -
  refine t_L_roadSize hc hr ⟨zRi (by omega) (by omega), fun e => h c (fun l l1 l6 lS => ⟨fun cl => ?_, fun hl => ?_⟩), fun e => ?_⟩
  · have a := hA 0 (L (175 + 81 * r) - 1) j1 (by omega) (by omega) (by rw [show j = L (175 + 81 * r) - 1 by omega]; omega) rfl
    rw [Nat.zero_add] at a
    exact Ft_more hT a (by decide) l (by omega) (by omega)
  · obtain ⟨p, q, i, p1, p2, -⟩ := hB l l1 hl
    omega
  have b2 := lnT_s L r j0
  have bl := lng_or (rhd L r j)
  have hB' : ∀ l : Nat, 1 ≤ l → Ft (lnT L r) (L (175 + 81 * r) - 1) most l 0 → ∃ (p : Nat) (q i : Int), p ≤ l ∧ 0 ≤ q ∧ j + 1 ≤ i ∧ i ≤ L (175 + 81 * r) - 1 ∧ q + (lnT L r i - lnT L r j) ≤ most ∧ Ft (lnT L r) (L (175 + 81 * r) - 1) most (l - p) i ∧ ((c < p ∨ (c = p ∧ cur ≤ q)) ∨ (c + 1 ≤ p ∧ q = 0)) := by
    intro l l1 hl
    obtain ⟨p, q, i, p1, p2, q0, i0, i1, i2, i3⟩ := hB l l1 hl
    by_cases ei : i = j
    · rw [ei] at i3
      cases hlp : l - p with
      | zero =>
        rw [hlp] at i3
        have : j = L (175 + 81 * r) - 1 := i3
        omega
      | succ n =>
        rw [hlp] at i3
        obtain ⟨i', z1, z2, z3, z4⟩ := i3
        refine ⟨p + 1, 0, i', by omega, by decide, by omega, z2, by omega, ?_, Or.inr ⟨by omega, rfl⟩⟩
        rw [show l - (p + 1) = n by omega]
        exact z4
    · exact ⟨p, q, i, p1, q0, by omega, i1, i2, i3, Or.inl p2⟩
  refine t_L_roadHeading hc hL hr hw j0 (by omega) (by omega) (t_R_longOf ⟨fun le => ⟨zRi (by omega) (by omega), fun le2 x ex => ⟨⟨rfl, by omega, by omega, c1, by omega, by omega, by omega, by omega, fun l i i0 i1 i2 i3 i4 => hA l i (by omega) i1 i2 (by omega) i4, fun l l1 hl => ?_⟩, zRi (by omega) (by omega), by dsimp only; omega⟩, fun gt x ex => ⟨⟨rfl, by omega, by omega, by omega, by omega, by omega, by omega, by omega, fun l i i0 i1 i2 i3 i4 => ?_, fun l l1 hl => ?_⟩, zRi (by omega) (by omega), zRi (by omega) (by omega), zRi (by omega) (by omega), by dsimp only; omega⟩⟩, fun gt => h 40 (fun l l1 l6 lS => ⟨fun cl => by omega, fun hl => ?_⟩)⟩)
  · obtain ⟨p, q, i, p1, q0, i0, i1, i2, i3, hh⟩ := hB' l l1 hl
    exact ⟨p, q + lng (rhd L r j), i, p1, by omega, by omega, i0, i1, by omega, i3⟩
  · have := hA (l + 1) j (by omega) (by omega) (by omega) (by omega) ⟨i, by omega, i1, by omega, i4⟩
    rw [show l + (c + 1).toNat = l + 1 + c.toNat by omega]
    exact this
  · obtain ⟨p, q, i, p1, q0, i0, i1, i2, i3, hh⟩ := hB' l l1 hl
    have b3 := hT.2 (j + 1) i (by omega) (by omega)
    exact ⟨p, q + lng (rhd L r j), i, p1, by omega, by omega, i0, i1, by omega, i3⟩
  · obtain ⟨p, q, i, p1, q0, i0, i1, i2, i3, hh⟩ := hB' l l1 hl
    have b3 := hT.2 (j + 1) i (by omega) (by omega)
    omega
