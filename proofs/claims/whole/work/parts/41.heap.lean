/-! ===== the heap ===== -/
def HSp (n : Int) (a sp : Int → Int) : Prop := ∀ i, 0 ≤ i → i < n → 0 ≤ a i ∧ a i < 2592 ∧ sp (a i) = i
def MemA (n : Int) (a : Int → Int) (v : Int) : Prop := ∃ i, 0 ≤ i ∧ i < n ∧ a i = v
def HOr (n : Int) (a ky : Int → Int) : Prop := ∀ i, 0 < i → i < n → ky (a ((i - 1) / 2)) ≤ ky (a i)
def HP (σ : zS) : Prop := 0 ≤ σ 21 3 ∧ σ 21 3 ≤ cnt (fun i => decide (σ 22 (i : Nat) < 1000000000)) 2592 ∧ HSp (σ 21 3) (σ 24) (σ 23) ∧ HOr (σ 21 3) (σ 24) (σ 22)
def HIn (σ : zS) (v : Int) : Prop := MemA (σ 21 3) (σ 24) v
theorem HSp.inj {n : Int} {a sp : Int → Int} (h : HSp n a sp) {i j : Int} (i0 : 0 ≤ i) (i1 : i < n) (j0 : 0 ≤ j) (j1 : j < n) (e : a i = a j) : i = j := by
  have h1 := (h i i0 i1).2.2
  have h2 := (h j j0 j1).2.2
  rw [e] at h1
  omega
theorem HSp_swap {n : Int} {a sp : Int → Int} (h : HSp n a sp) {s x : Int} (s0 : 0 ≤ s) (s1 : s < n) (x0 : 0 ≤ x) (x1 : x < n) (hne : x ≠ s) : HSp n (up (up a s (a x)) x (a s)) (up (up sp (a x) s) (a s) x) ∧ ∀ v, MemA n (up (up a s (a x)) x (a s)) v ↔ MemA n a v := by
  have hsx : a x ≠ a s := fun e => hne (h.inj x0 x1 s0 s1 e)
  constructor
  · intro i i0 i1
    by_cases e : i = x
    · subst e
      rw [up_s, up_s]
      exact ⟨(h s s0 s1).1, (h s s0 s1).2.1, rfl⟩
    · rw [up_o e]
      by_cases e2 : i = s
      · subst e2
        rw [up_s, up_o hsx, up_s]
        exact ⟨(h x x0 x1).1, (h x x0 x1).2.1, rfl⟩
      · rw [up_o e2, up_o (fun q => e2 (h.inj i0 i1 s0 s1 q)), up_o (fun q => e (h.inj i0 i1 x0 x1 q))]
        exact h i i0 i1
  · intro v
    constructor
    · rintro ⟨i, i0, i1, e⟩
      by_cases e1 : i = x
      · subst e1
        rw [up_s] at e
        exact ⟨s, s0, s1, e⟩
      · rw [up_o e1] at e
        by_cases e2 : i = s
        · subst e2
          rw [up_s] at e
          exact ⟨x, x0, x1, e⟩
        · rw [up_o e2] at e
          exact ⟨i, i0, i1, e⟩
    · rintro ⟨i, i0, i1, e⟩
      by_cases e1 : i = x
      · subst e1
        refine ⟨s, s0, s1, ?_⟩
        rw [up_o (Ne.symm hne), up_s]
        exact e
      · by_cases e2 : i = s
        · subst e2
          refine ⟨x, x0, x1, ?_⟩
          rw [up_s]
          exact e
        · refine ⟨i, i0, i1, ?_⟩
          rw [up_o e1, up_o e2]
          exact e
/-- nodes and spots with the node put at s -/
def HF (n node : Int) (M : Int → Prop) (s : Int) (τ : zS) : Prop := 0 ≤ s ∧ s < n ∧ HSp n (up (τ 24) s node) (up (τ 23) node s) ∧ ∀ v, MemA n (up (τ 24) s node) v ↔ M v
theorem HF_move {n node : Int} {M : Int → Prop} {s x : Int} {τ τ' : zS} (h : HF n node M s τ) (x0 : 0 ≤ x) (x1 : x < n) (hne : x ≠ s) (e24 : τ' 24 = up (τ 24) s (τ 24 x)) (e23 : τ' 23 = up (τ 23) (τ 24 x) s) : HF n node M x τ' ∧ (∀ i, up (τ' 24) x node i = if i = x then node else if i = s then τ 24 x else τ 24 i) := by
  obtain ⟨s0, s1, h1, h2⟩ := h
  have hx := HSp_swap h1 s0 s1 x0 x1 hne
  have a1 : up (τ 24) s node x = τ 24 x := up_o hne
  have a2 : up (τ 24) s node s = node := up_s _ _ _
  rw [a1, a2, up_up] at hx
  have e3 : up (up (up (τ 23) node s) (τ 24 x) s) node x = up (up (τ 23) (τ 24 x) s) node x := by
    funext v
    unfold up
    split
    · rfl
    · split
      · rfl
      · rfl
  rw [e3] at hx
  refine ⟨⟨x0, x1, ?_, ?_⟩, fun i => ?_⟩
  · rw [e24, e23]
    exact hx.1
  · intro v
    rw [e24]
    exact (hx.2 v).trans (h2 v)
  · rw [e24]
    rfl
theorem t_H_rise {K : zS → Prop} {σ : zS} {node from_ : Int} {M : Int → Prop} (hn : σ 21 3 ≤ 2592) (hnode : 0 ≤ node ∧ node < 2592) (hF : HF (σ 21 3) node M from_ σ) (hO : ∀ i, 0 < i → i < σ 21 3 → i ≠ from_ → σ 22 (up (σ 24) from_ node ((i - 1) / 2)) ≤ σ 22 (up (σ 24) from_ node i)) (hG : 0 < from_ → ∀ i, 0 < i → i < σ 21 3 → (i - 1) / 2 = from_ → σ 22 (up (σ 24) from_ node ((from_ - 1) / 2)) ≤ σ 22 (up (σ 24) from_ node i)) (h : ∀ τ, zQ [23, 24] σ τ → HSp (σ 21 3) (τ 24) (τ 23) → HOr (σ 21 3) (τ 24) (σ 22) → (∀ v, MemA (σ 21 3) (τ 24) v ↔ M v) → K τ) : q_H_rise node from_ K σ := by
  unfold q_H_rise
  refine ⟨fun s τ => zQ [23, 24] σ τ ∧ HF (σ 21 3) node M s τ ∧ (∀ i, 0 < i → i < σ 21 3 → i ≠ s → σ 22 (up (τ 24) s node ((i - 1) / 2)) ≤ σ 22 (up (τ 24) s node i)) ∧ (0 < s → ∀ i, 0 < i → i < σ 21 3 → (i - 1) / 2 = s → σ 22 (up (τ 24) s node ((s - 1) / 2)) ≤ σ 22 (up (τ 24) s node i)), fun s _ => s.toNat, ⟨zQ_r _ _, hF, hO, hG⟩, ?_⟩
  rintro s τ ⟨hq, hF, hO, hG⟩ hzs
  obtain ⟨s0, s1, hH, hM⟩ := id hF
  refine ⟨fun w t => w = s ∧ t = τ ∧ (0 < s → σ 22 (up (τ 24) s node ((s - 1) / 2)) ≤ σ 22 node), fun w t hw _ => ?_, fun c => ⟨rfl, rfl, fun d => by omega⟩, fun c x ex => ?_⟩
  · obtain ⟨rfl, rfl, hw3⟩ := hw
    refine ⟨by omega, fun s6 e6 => ⟨hnode, fun s8 e8 => h s8 ?_ ?_ ?_ ?_⟩⟩
    · rw [e8, e6]; exact zQ_t hq (zQ_t (zQ_U (by decide)) (zQ_U (by decide)))
    all_goals
      have e24 : s8 24 = up (t 24) w node := by rw [e8, zU_row (by decide), e6, zU_up]
      have e23 : s8 23 = up (t 23) node w := by rw [e8, zU_up, e6, zU_row (by decide)]
    · rw [e24, e23]; exact hH
    · rw [e24]
      intro i i0 i1
      by_cases e : i = w
      · subst e
        rw [up_s]
        exact hw3 i0
      · exact hO i i0 i1 e
    · rw [e24]; exact hM
  · rw [zShr_1 (zRi (by omega) (by omega))] at ex
    subst ex
    have x0 : 0 ≤ (s - 1) / 2 := by omega
    have x1 : (s - 1) / 2 < σ 21 3 := by omega
    have hne : (s - 1) / 2 ≠ s := by omega
    have hx := hH ((s - 1) / 2) x0 x1
    rw [up_o hne] at hx
    have e22 : τ 22 = σ 22 := hq 22 (by decide)
    rw [e22]
    refine ⟨by omega, ⟨hx.1, hx.2.1⟩, hnode, fun d => ⟨by omega, fun s1' e1 => ?_⟩, fun d => ⟨rfl, rfl, fun _ => by rw [up_o hne]; exact d⟩⟩
    have f1 : s1' 24 s = τ 24 ((s - 1) / 2) := by rw [e1, zU_s]
    rw [f1]
    refine ⟨⟨hx.1, hx.2.1⟩, fun s2 e2 => ?_⟩
    have e24 : s2 24 = up (τ 24) s (τ 24 ((s - 1) / 2)) := by rw [e2, zU_row (by decide), e1, zU_up]
    have e23 : s2 23 = up (τ 23) (τ 24 ((s - 1) / 2)) s := by rw [e2, zU_up, e1, zU_row (by decide)]
    obtain ⟨hF2, ha⟩ := HF_move hF x0 x1 hne e24 e23
    have hs : ∀ i, up (τ 24) s node i = if i = s then node else τ 24 i := fun i => rfl
    refine ⟨⟨?_, hF2, fun i i0 i1 hi => ?_, fun hx0 i i0 i1 hi => ?_⟩, by dsimp only; omega⟩
    · rw [e2, e1]; exact zQ_t hq (zQ_t (zQ_U (by decide)) (zQ_U (by decide)))
    · rw [ha, ha]
      by_cases e1 : i = s
      · subst e1
        rw [if_pos rfl, if_neg (Ne.symm hne), if_pos rfl]
        omega
      · have o := hO i i0 i1 e1
        rw [hs, hs, if_neg e1] at o
        rw [if_neg hi, if_neg e1]
        by_cases e2 : (i - 1) / 2 = (s - 1) / 2
        · rw [e2, if_pos rfl]
          rw [e2, if_neg hne] at o
          omega
        · rw [if_neg e2]
          by_cases e3 : (i - 1) / 2 = s
          · rw [if_pos e3]
            have g := hG (by omega) i i0 i1 e3
            rw [hs, hs, if_neg hne, if_neg e1] at g
            exact g
          · rw [if_neg e3]
            rw [if_neg e3] at o
            exact o
    · rw [ha, ha]
      have o := hO ((s - 1) / 2) hx0 x1 hne
      rw [hs, hs, if_neg (show ((s - 1) / 2 - 1) / 2 ≠ s by omega), if_neg hne] at o
      rw [if_neg (show ((s - 1) / 2 - 1) / 2 ≠ (s - 1) / 2 by omega), if_neg (show ((s - 1) / 2 - 1) / 2 ≠ s by omega), if_neg (show i ≠ (s - 1) / 2 by omega)]
      by_cases e1 : i = s
      · rw [if_pos e1]
        exact o
      · rw [if_neg e1]
        have o2 := hO i i0 i1 e1
        rw [hs, hs, if_neg e1, hi, if_neg hne] at o2
        omega
