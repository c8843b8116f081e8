/-! ===== where water runs ===== -/
def rnf (L : Int → Int) (p : Int) : Nat → Int
  | 0 => -1
  | n + 1 => if bs L p n ≠ -1 ∧ L (13 + bs L p n) < (if rnf L p n = -1 then L (13 + p) else L (13 + rnf L p n)) then bs L p n else rnf L p n
def run (L : Int → Int) (p : Int) : Int := rnf L p 8
theorem rnf_s (L : Int → Int) (p : Int) {y : Int} (h : 0 ≤ y) : rnf L p (y + 1).toNat = if bs L p y ≠ -1 ∧ L (13 + bs L p y) < (if rnf L p y.toNat = -1 then L (13 + p) else L (13 + rnf L p y.toNat)) then bs L p y else rnf L p y.toNat := by
  have e : ((y.toNat : Nat) : Int) = y := Int.toNat_of_nonneg h
  rw [show (y + 1).toNat = y.toNat + 1 by omega]
  show (if bs L p (y.toNat : Int) ≠ -1 ∧ L (13 + bs L p (y.toNat : Int)) < _ then bs L p (y.toNat : Int) else _) = _
  rw [e]
theorem rnf_b (L : Int → Int) (p : Int) : ∀ n, rnf L p n = -1 ∨ (inP L (rnf L p n) ∧ L (13 + rnf L p n) < L (13 + p))
  | 0 => Or.inl rfl
  | n + 1 => by
    have ih := rnf_b L p n
    have e : rnf L p (n + 1) = if bs L p n ≠ -1 ∧ L (13 + bs L p n) < (if rnf L p n = -1 then L (13 + p) else L (13 + rnf L p n)) then bs L p n else rnf L p n := rfl
    rw [e]
    by_cases c : bs L p n ≠ -1 ∧ L (13 + bs L p n) < (if rnf L p n = -1 then L (13 + p) else L (13 + rnf L p n))
    · rw [if_pos c]
      refine Or.inr ⟨bs_in c.1, ?_⟩
      rcases ih with i | i
      · rw [if_pos i] at c
        exact c.2
      · rw [if_neg i.1.ne] at c
        omega
    · rw [if_neg c]
      exact ih
theorem run_b (L : Int → Int) (p : Int) : run L p = -1 ∨ (inP L (run L p) ∧ L (13 + run L p) < L (13 + p)) := rnf_b L p 8
theorem t_M_runOf {K : Int → zS → Prop} {σ : zS} {L : Int → Int} {A B p : Int} (hm : MM L A B σ) (hL : GW L) (hp : inP L p) (h : K (run L p) σ) : q_M_runOf p K σ := by
  have hp2 := hp.b hL
  unfold q_M_runOf
  refine ⟨fun x y s => s = σ ∧ 0 ≤ y ∧ y ≤ 8 ∧ x = rnf L p y.toNat, fun _ y _ => (8 - y).toNat, ⟨rfl, by decide, by decide, rfl⟩, ?_⟩
  rintro x y s ⟨rfl, y0, y8, hx⟩ - -
  refine ⟨fun c => ?_, fun c => t_M_beside hm hL hp ⟨y0, c⟩ ⟨fun e => ?_, fun e => ?_⟩⟩
  · rw [show y = 8 by omega] at hx
    rw [hx]
    exact h
  · refine ⟨⟨rfl, by omega, by omega, ?_⟩, zRi (by omega) (by omega), by dsimp only; omega⟩
    rw [rnf_s L p y0, if_neg (fun c => c.1 e), hx]
  · have hq := (bs_in e).b hL
    have hs := rnf_s L p y0
    rw [← hx] at hs
    have hb := rnf_b L p y.toNat
    rw [← hx] at hb
    rw [hm.1]
    refine ⟨by omega, by omega, fun d => ⟨fun f => ⟨⟨rfl, by omega, by omega, ?_⟩, zRi (by omega) (by omega), by dsimp only; omega⟩, fun f => ?_⟩, fun d => ⟨⟨rfl, by omega, by omega, ?_⟩, zRi (by omega) (by omega), by dsimp only; omega⟩⟩
    · rw [hs, if_pos f, if_pos ⟨e, d⟩]
    · rw [if_neg f] at hs
      have hx2 := (hb.resolve_left f).1.b hL
      refine ⟨by omega, fun q => ⟨⟨rfl, by omega, by omega, ?_⟩, zRi (by omega) (by omega), by dsimp only; omega⟩, fun q => ⟨⟨rfl, by omega, by omega, ?_⟩, zRi (by omega) (by omega), by dsimp only; omega⟩⟩
      · rw [hs, if_neg (by omega)]
      · rw [hs, if_pos ⟨e, q⟩]
    · rw [hs, if_neg]
      intro q
      rcases hb with b | b
      · rw [if_pos b] at q
        omega
      · rw [if_neg b.1.ne] at q
        omega
theorem t_S_runOf {K : Int → zS → Prop} {σ : zS} {L : Int → Int} {p : Int} (hc : CC L σ) (hL : GW L) (hp : inP L p) (h : K (run L p) σ) : q_S_runOf p K σ := by
  have hp2 := hp.b hL
  unfold q_S_runOf
  refine t_L_height hc hL hp ⟨fun x l y s => s = σ ∧ 0 ≤ y ∧ y ≤ 8 ∧ x = rnf L p y.toNat ∧ l = (if x = -1 then L (13 + p) else L (13 + x)), fun _ _ y _ => (8 - y).toNat, ⟨rfl, by decide, by decide, rfl, rfl⟩, ?_⟩
  rintro x l y s ⟨rfl, y0, y8, hx, hl⟩ - - -
  have hs := rnf_s L p y0
  rw [← hx, ← hl] at hs
  refine ⟨fun c => ?_, fun c => t_L_besideOf hc hL hp ⟨y0, c⟩ ⟨fun e => ?_, fun e => ?_⟩⟩
  · rw [show y = 8 by omega] at hx
    rw [hx]
    exact h
  · refine ⟨⟨rfl, by omega, by omega, ?_, hl⟩, zRi (by omega) (by omega), by dsimp only; omega⟩
    rw [hs, if_neg (fun c => c.1 e)]
  · have hq := (bs_in e)
    refine t_L_height hc hL hq ⟨fun d => ⟨⟨rfl, by omega, by omega, ?_, hl⟩, zRi (by omega) (by omega), by dsimp only; omega⟩, fun d => t_L_height hc hL hq ⟨⟨rfl, by omega, by omega, ?_, ?_⟩, zRi (by omega) (by omega), by dsimp only; omega⟩⟩
    · rw [hs, if_neg (by omega)]
    · rw [hs, if_pos ⟨e, d⟩]
    · rw [if_neg e]
/-- how many places are lower -/
def rnk (L : Int → Int) (p : Int) : Nat := cnt (fun i => decide (L (13 + (i : Nat)) < L (13 + p))) (L 0 * L 1).toNat
theorem rnk_run {L : Int → Int} {p : Int} (h : run L p ≠ -1) : rnk L (run L p) + 1 ≤ rnk L p := by
  have hb := (run_b L p).resolve_left h
  have e : (((run L p).toNat : Nat) : Int) = run L p := Int.toNat_of_nonneg hb.1.1
  refine cnt_lt (j := (run L p).toNat) _ (by have := hb.1.1; have := hb.1.2; omega) (fun i _ => ?_) ?_ ?_
  · simp only [decide_eq_true_eq]
    have := hb.2
    omega
  · simp only [e]
    exact decide_eq_false (by omega)
  · simp only [e]
    exact decide_eq_true hb.2
theorem rnk_lt {L : Int → Int} {p : Int} (hp : inP L p) : rnk L p + 1 ≤ (L 0 * L 1).toNat := by
  have e : ((p.toNat : Nat) : Int) = p := Int.toNat_of_nonneg hp.1
  refine cnt_full (j := p.toNat) (by have := hp.1; have := hp.2; omega) ?_
  simp only [e]
  exact decide_eq_false (by omega)
/-- how often the water from a comes to q within n places -/
def vis (L : Int → Int) (q : Int) : Nat → Int → Int
  | 0, _ => 0
  | n + 1, a => if a = -1 then 0 else (if a = q then 1 else 0) + vis L q n (run L a)
theorem vis_0 (L : Int → Int) (q : Int) : ∀ n a, (a = -1 ∨ L (13 + a) < L (13 + q)) → vis L q n a = 0
  | 0, _, _ => rfl
  | n + 1, a, h => by
    show (if a = -1 then 0 else (if a = q then 1 else 0) + vis L q n (run L a)) = 0
    by_cases e : a = -1
    · rw [if_pos e]
    · have h2 := h.resolve_left e
      rw [if_neg e, if_neg (fun x => by rw [x] at h2; omega), vis_0 L q n (run L a)]
      · rfl
      · rcases run_b L a with r | r
        · exact Or.inl r
        · exact Or.inr (by omega)
theorem vis_1 (L : Int → Int) (q : Int) : ∀ n a, 0 ≤ vis L q n a ∧ vis L q n a ≤ 1
  | 0, _ => ⟨Int.le_refl 0, Int.zero_le_ofNat 1⟩
  | n + 1, a => by
    show 0 ≤ (if a = -1 then 0 else (if a = q then 1 else 0) + vis L q n (run L a)) ∧ (if a = -1 then 0 else (if a = q then 1 else 0) + vis L q n (run L a)) ≤ 1
    by_cases e : a = -1
    · rw [if_pos e]; decide
    · rw [if_neg e]
      have ih := vis_1 L q n (run L a)
      by_cases e2 : a = q
      · rw [if_pos e2, vis_0 L q n (run L a)]
        · decide
        · rcases run_b L a with r | r
          · exact Or.inl r
          · exact Or.inr (by rw [← e2]; exact r.2)
      · rw [if_neg e2]
        omega
/-- the catch of a place -/
def catL (L : Int → Int) (q : Int) : Int := smI (fun p => vis L q 81 p) (L 0 * L 1).toNat
theorem catL_b {L : Int → Int} (hL : GW L) (q : Int) : 0 ≤ catL L q ∧ catL L q ≤ 81 := by
  have h := smI_bd (f := fun p => vis L q 81 p) (a := 0) (b := 1) (L 0 * L 1).toNat (fun i _ => vis_1 L q 81 i)
  have := hL.n
  unfold catL
  omega
theorem catL_CB {L : Int → Int} (hL : GW L) : CB L (catL L) := fun q _ => catL_b hL q
theorem smI_i (f : Nat → Int) {y : Int} (h : 0 ≤ y) : smI f (y + 1).toNat = smI f y.toNat + f y.toNat := by
  rw [show (y + 1).toNat = y.toNat + 1 by omega]
  rfl
theorem smI_0 (f : Nat → Int) : smI f (0 : Int).toNat = 0 := rfl
theorem vis_s (L : Int → Int) (q : Int) {n : Nat} {a : Int} (hn : 0 < n) (ha : a ≠ -1) : vis L q n a = (if a = q then 1 else 0) + vis L q (n - 1) (run L a) := by
  obtain ⟨m, rfl⟩ : ∃ m, n = m + 1 := ⟨n - 1, by omega⟩
  show (if a = -1 then 0 else (if a = q then 1 else 0) + vis L q m (run L a)) = _
  rw [if_neg ha]
  rfl
theorem smI_mono0 {f : Nat → Int} (h : ∀ i, 0 ≤ f i) : ∀ {m n : Nat}, m ≤ n → smI f m ≤ smI f n := by
  intro m n
  induction n with
  | zero => intro e; rw [show m = 0 by omega]; omega
  | succ n ih =>
    intro e
    by_cases q : m = n + 1
    · rw [q]; omega
    · have := ih (by omega)
      have := h n
      show smI f m ≤ smI f n + f n
      omega
/-- the catches so far never pass 81 -/
theorem cat_part {L : Int → Int} (hL : GW L) (q : Int) {y : Int} (y0 : 0 ≤ y) (y1 : y < L 0 * L 1) : 0 ≤ smI (fun p => vis L q 81 p) y.toNat ∧ smI (fun p => vis L q 81 p) y.toNat + vis L q 81 y ≤ 81 := by
  have h1 := smI_mono0 (f := fun p => vis L q 81 p) (fun i => (vis_1 L q 81 i).1) (m := (y + 1).toNat) (n := (L 0 * L 1).toNat) (by omega)
  have h2 := smI_mono0 (f := fun p => vis L q 81 p) (fun i => (vis_1 L q 81 i).1) (m := 0) (n := y.toNat) (by omega)
  have h3 := catL_b hL q
  rw [smI_i _ y0] at h1
  have e : ((y.toNat : Nat) : Int) = y := Int.toNat_of_nonneg y0
  simp only [e] at h1
  unfold catL at h3
  have : smI (fun p => vis L q 81 p) 0 = 0 := rfl
  omega
theorem t_M_laysCatches {K : zS → Prop} {σ : zS} {L : Int → Int} {A B : Int} (hm : MM L A B σ) (hL : GW L) (h : ∀ τ, zQ [62] σ τ → (∀ q, inP L q → τ 62 q = catL L q) → K τ) : q_M_laysCatches K σ := by
  have hn := hL.n
  unfold q_M_laysCatches
  refine ⟨fun y s => zQ [62] σ s ∧ 0 ≤ y ∧ y ≤ 81 ∧ ∀ q, 0 ≤ q → q < y → s 62 q = 0, fun y _ => (81 - y).toNat, ⟨zQ_r _ _, by decide, by decide, fun q a b => by omega⟩, ?_⟩
  rintro y s ⟨hq, y0, y81, hI⟩ -
  have hm' := MM_Q hm hq (by decide)
  refine t_M_places hm' (by omega) ⟨fun c => ?_, fun c => ⟨by omega, fun s1 e1 => ⟨⟨?_, by omega, by omega, fun q a b => ?_⟩, zRi (by omega) (by omega), by dsimp only; omega⟩⟩⟩
  · refine ⟨fun y s => zQ [62] σ s ∧ 0 ≤ y ∧ y ≤ L 0 * L 1 ∧ ∀ q, inP L q → s 62 q = smI (fun p => vis L q 81 p) y.toNat, fun y _ => (81 - y).toNat, ⟨hq, by decide, by omega, fun q iq => hI q iq.1 (by have := iq.2; omega)⟩, ?_⟩
    rintro y s ⟨hq, y0, y81, hI⟩ -
    have hm' := MM_Q hm hq (by decide)
    refine t_M_places hm' (by omega) ⟨fun c => h s hq (fun q iq => ?_), fun c => ?_⟩
    · rw [hI q iq, show y = L 0 * L 1 by omega]
      rfl
    · have ey : ((y.toNat : Nat) : Int) = y := Int.toNat_of_nonneg y0
      have iy : inP L y := ⟨y0, c⟩
      refine ⟨fun a s => zQ [62] σ s ∧ (a = -1 ∨ inP L a) ∧ ∃ m : Nat, (a ≠ -1 → rnk L a < m) ∧ ∀ q, inP L q → s 62 q + vis L q m a = smI (fun p => vis L q 81 p) y.toNat + vis L q 81 y, fun a _ => if a = -1 then 0 else rnk L a + 1, ⟨hq, Or.inr iy, 81, fun _ => by have := rnk_lt iy; omega, fun q iq => by rw [hI q iq]⟩, ?_⟩
      rintro a s ⟨hq, ha, m, hr, hs⟩ -
      have hm' := MM_Q hm hq (by decide)
      refine ⟨fun e => ⟨⟨hq, by omega, by omega, fun q iq => ?_⟩, zRi (by omega) (by omega), by dsimp only; omega⟩, fun e => ?_⟩
      · have := hs q iq
        rw [e, vis_0 L q m (-1) (Or.inl rfl)] at this
        rw [smI_i _ y0]
        simp only [ey]
        omega
      · have ia := ha.resolve_left e
        have ia2 := ia.b hL
        have h1 := hs a ia
        have h2 := cat_part hL a y0 c
        have h3 := vis_1 L a m a
        have h5 := vis_1 L a 81 y
        have hr' := hr e
        refine ⟨ia2, zRi (by omega) (by omega), fun s1 e1 => ?_⟩
        have hm1 : MM L A B s1 := by
          rw [e1]
          exact MM_U hm' (by decide)
        refine t_M_runOf hm1 hL ia ⟨⟨by rw [e1]; exact zQ_t hq (zQ_U (by decide)), ?_, m - 1, fun e2 => ?_, fun q iq => ?_⟩, ?_⟩
        · rcases run_b L a with r | r
          · exact Or.inl r
          · exact Or.inr r.1
        · have := rnk_run e2
          omega
        · have h4 := hs q iq
          rw [vis_s L q (by omega) e] at h4
          rw [e1, zU_if]
          by_cases eq : q = a
          · subst eq
            rw [if_pos rfl] at h4 ⊢
            omega
          · rw [if_neg eq]
            rw [if_neg (fun x => eq x.symm)] at h4
            omega
        · dsimp only
          rw [if_neg e]
          by_cases e2 : run L a = -1
          · rw [if_pos e2]; omega
          · rw [if_neg e2]
            have := rnk_run e2
            omega
  · rw [e1]; exact zQ_t hq (zQ_U (by decide))
  · rw [e1, zU_if]
    by_cases e : q = y
    · rw [if_pos e]
    · rw [if_neg e]
      exact hI q a (by omega)
theorem t_S_gather {K : zS → Prop} {σ : zS} {L : Int → Int} (hc : CC L σ) (hL : GW L) (h : ∀ τ, zQ [12, 13] σ τ → (∀ q, inP L q → τ 13 q = catL L q) → K τ) : q_S_gather K σ := by
  have hn := hL.n
  unfold q_S_gather
  refine t_L_places hc (by omega) ⟨fun y s => zQ [12, 13] σ s ∧ 0 ≤ y ∧ y ≤ 81 ∧ ∀ q, 0 ≤ q → q < y → s 12 q = run L q ∧ s 13 q = 0, fun y _ => (81 - y).toNat, ⟨zQ_r _ _, by decide, by decide, fun q a b => by omega⟩, ?_⟩
  rintro y s ⟨hq, y0, y81, hI⟩ -
  refine ⟨fun c => ?_, fun c => t_S_runOf (CC_Q hc hq (by decide)) hL ⟨y0, c⟩ ⟨by omega, fun s1 e1 s2 e2 => ⟨⟨?_, by omega, by omega, fun q a b => ?_⟩, zRi (by omega) (by omega), by dsimp only; omega⟩⟩⟩
  · refine ⟨fun y s => zQ [12, 13] σ s ∧ 0 ≤ y ∧ y ≤ L 0 * L 1 ∧ ∀ q, inP L q → s 12 q = run L q ∧ s 13 q = smI (fun p => vis L q 81 p) y.toNat, fun y _ => (81 - y).toNat, ⟨hq, by decide, by omega, fun q iq => hI q iq.1 (by have := iq.2; omega)⟩, ?_⟩
    rintro y s ⟨hq, y0, y81, hI⟩ -
    refine ⟨fun c => h s hq (fun q iq => ?_), fun c => ?_⟩
    · rw [(hI q iq).2, show y = L 0 * L 1 by omega]
      rfl
    · have ey : ((y.toNat : Nat) : Int) = y := Int.toNat_of_nonneg y0
      have iy : inP L y := ⟨y0, c⟩
      have hry := rnk_lt iy
      refine ⟨fun a k s => zQ [12, 13] σ s ∧ (a = -1 ∨ inP L a) ∧ 0 ≤ k ∧ k ≤ L 0 * L 1 ∧ (a ≠ -1 → k + rnk L a ≤ rnk L y) ∧ ∃ m : Nat, (a ≠ -1 → rnk L a < m) ∧ ∀ q, inP L q → s 12 q = run L q ∧ s 13 q + vis L q m a = smI (fun p => vis L q 81 p) y.toNat + vis L q 81 y, fun _ k _ => (81 - k).toNat, ⟨hq, Or.inr iy, by decide, by omega, fun _ => by omega, 81, fun _ => by omega, fun q iq => ⟨(hI q iq).1, by rw [(hI q iq).2]⟩⟩, ?_⟩
      rintro a k s ⟨hq, ha, k0, k1, hk, m, hr, hs⟩ - -
      have fin : a = -1 → (zQ [12, 13] σ s ∧ 0 ≤ y + 1 ∧ y + 1 ≤ L 0 * L 1 ∧ ∀ q, inP L q → s 12 q = run L q ∧ s 13 q = smI (fun p => vis L q 81 p) (y + 1).toNat) ∧ zR (y + 1) ∧ (81 - (y + 1)).toNat < (81 - y).toNat := fun e => by
        refine ⟨⟨hq, by omega, by omega, fun q iq => ⟨(hs q iq).1, ?_⟩⟩, zRi (by omega) (by omega), by omega⟩
        have := (hs q iq).2
        rw [e, vis_0 L q m (-1) (Or.inl rfl)] at this
        rw [smI_i _ y0]
        simp only [ey]
        omega
      refine ⟨fun d => fin ?_, fun d => ⟨fun e => fin e, fun e => ?_⟩⟩
      · by_cases e : a = -1
        · exact e
        · have := hk e
          omega
      · have ia := ha.resolve_left e
        have ia2 := ia.b hL
        have h1 := (hs a ia).2
        have h2 := cat_part hL a y0 c
        have h3 := vis_1 L a m a
        have h5 := vis_1 L a 81 y
        have hr' := hr e
        have hk' := hk e
        refine ⟨ia2, zRi (by omega) (by omega), fun s1 e1 x ex => ?_⟩
        have ex2 : x = run L a := by rw [ex, e1, zU_row (by decide)]; exact (hs a ia).1
        subst ex2
        refine ⟨⟨by rw [e1]; exact zQ_t hq (zQ_U (by decide)), ?_, by omega, by omega, fun e2 => ?_, m - 1, fun e2 => ?_, fun q iq => ⟨?_, ?_⟩⟩, zRi (by omega) (by omega), by dsimp only; omega⟩
        · rcases run_b L a with r | r
          · exact Or.inl r
          · exact Or.inr r.1
        · have := rnk_run e2
          omega
        · have := rnk_run e2
          omega
        · rw [e1, zU_row (by decide)]
          exact (hs q iq).1
        · have h4 := (hs q iq).2
          rw [vis_s L q (by omega) e] at h4
          rw [e1, zU_if]
          by_cases eq : q = a
          · subst eq
            rw [if_pos rfl] at h4 ⊢
            omega
          · rw [if_neg eq]
            rw [if_neg (fun x => eq x.symm)] at h4
            omega
  · rw [e2, e1]; exact zQ_t hq (zQ_t (zQ_U (by decide)) (zQ_U (by decide)))
  · have g1 : s2 12 q = if q = y then run L y else s 12 q := by rw [e2, zU_o (by decide), e1, zU_if]
    have g2 : s2 13 q = if q = y then 0 else s 13 q := by rw [e2, zU_if, e1, zU_o (by decide)]
    rw [g1, g2]
    by_cases e : q = y
    · rw [if_pos e, if_pos e, e]
      exact ⟨rfl, rfl⟩
    · rw [if_neg e, if_neg e]
      exact hI q a (by omega)
