theorem cnt2592 {ky : Int → Int} {v : Int} (h0 : 0 ≤ v) (h1 : v < 2592) (h : ¬ ky v < 1000000000) : cnt (fun i => decide (ky (i : Nat) < 1000000000)) 2592 ≤ 2591 := by
  have e : ((v.toNat : Nat) : Int) = v := Int.toNat_of_nonneg h0
  have := cnt_full (P := fun i => decide (ky (i : Nat) < 1000000000)) (j := v.toNat) (n := 2592) (by omega) (by simp only [e]; exact decide_eq_false h)
  omega
/-- what offer does to keys and members -/
theorem t_H_offer {K : zS → Prop} {σ : zS} {node key : Int} (hP : HP σ) (hnode : 0 ≤ node ∧ node < 2592) (hk0 : key < 1000000000) (hi : key < σ 22 node → (σ 22 node = 1000000000 → ¬ HIn σ node) ∧ (σ 22 node ≠ 1000000000 → HIn σ node)) (hlo : σ 22 node ≤ key → K σ) (h : key < σ 22 node → ∀ τ, zQ [21, 22, 23, 24] σ τ → τ 22 = up (σ 22) node key → HP τ → (∀ v, HIn τ v ↔ (HIn σ v ∨ v = node)) → K τ) : q_H_offer node key K σ := by
  obtain ⟨n0, n1, hS, hO⟩ := hP
  have nle : σ 21 3 ≤ 2592 := by have := cnt_le (fun i => decide (σ 22 (i : Nat) < 1000000000)) 2592; omega
  unfold q_H_offer
  refine ⟨hnode, fun c => ?_, hlo⟩
  have hi' := hi c
  have hc1 := cnt_up (N := 2592) (d := σ 22) (v := node) (x := key) hnode.1 hnode.2 hk0
  refine ⟨fun s => (s = σ ∧ σ 22 node ≠ 1000000000) ∨ (s = zU (zU σ 23 node (σ 21 3)) 21 3 (σ 21 3 + 1) ∧ σ 22 node = 1000000000), fun s5 h5 s6 e6 => ?_, fun d => Or.inl ⟨rfl, d⟩, fun d s11 e11 => ?_⟩
  · rcases h5 with ⟨rfl, hne⟩ | ⟨e5, heq⟩
    · obtain ⟨i, i0, i1, ei⟩ := hi'.2 hne
      have q6 : zQ [21, 22, 23, 24] s5 s6 := by rw [e6]; exact zQ_U (by decide)
      have e22 : s6 22 = up (s5 22) node key := by rw [e6, zU_up]
      have e21 : s6 21 = s5 21 := by rw [e6, zU_row (by decide)]
      have e23 : s6 23 = s5 23 := by rw [e6, zU_row (by decide)]
      have e24 : s6 24 = s5 24 := by rw [e6, zU_row (by decide)]
      have esp : s6 23 node = i := by rw [e23, ← ei]; exact (hS i i0 i1).2.2
      have eup : up (s6 24) i node = s5 24 := by
        rw [e24]
        funext j
        unfold up
        split
        · rename_i e; rw [e]; exact ei.symm
        · rfl
      have eup2 : up (s6 23) node i = s5 23 := by
        rw [e23]
        funext j
        unfold up
        split
        · rename_i e; rw [e, ← ei]; exact (hS i i0 i1).2.2.symm
        · rfl
      have kyo : ∀ j, 0 ≤ j → j < s5 21 3 → j ≠ i → s6 22 (s5 24 j) = s5 22 (s5 24 j) := fun j j0 j1 hj => by
        rw [e22, up_o]
        intro e
        exact hj (hS.inj j0 j1 i0 i1 (e.trans ei.symm))
      have kyi : s6 22 (s5 24 i) = key := by rw [e22, ei, up_s]
      have kyi2 : s5 22 (s5 24 i) = s5 22 node := by rw [ei]
      rw [esp]
      refine t_H_rise (M := fun v => HIn s5 v) (by rw [e21]; exact nle) hnode ⟨i0, by rw [e21]; exact i1, by rw [eup, eup2, e21]; exact hS, fun v => by rw [eup, e21]; exact Iff.rfl⟩ (fun j j0 j1 hj => ?_) (fun hi0 j j0 j1 hj => ?_) (fun τ hτ t1 t2 t3 => h c τ (zQ_t q6 (zQ_m hτ (by decide))) ?_ ⟨?_, ?_, ?_, ?_⟩ (fun v => ?_))
      · rw [eup]
        rw [e21] at j1
        rw [kyo j (by omega) j1 hj]
        have o := hO j j0 j1
        by_cases e : (j - 1) / 2 = i
        · rw [e, kyi]
          rw [e, kyi2] at o
          omega
        · rw [kyo _ (by omega) (by omega) e]
          exact o
      · rw [eup]
        rw [e21] at j1
        have hj' : j ≠ i := by omega
        rw [kyo j (by omega) j1 hj', kyo ((i - 1) / 2) (by omega) (by omega) (by omega)]
        have o1 := hO i hi0 i1
        have o2 := hO j j0 j1
        rw [hj] at o2
        omega
      · rw [hτ 22 (by decide), e22]
      · rw [hτ 21 (by decide), e21]; exact n0
      · rw [hτ 21 (by decide), e21, hτ 22 (by decide), e22]
        split at hc1 <;> omega
      · rw [hτ 21 (by decide)]; exact t1
      · rw [hτ 21 (by decide), hτ 22 (by decide)]; exact t2
      · unfold HIn
        rw [hτ 21 (by decide)]
        refine (t3 v).trans ⟨Or.inl, fun q => q.elim id (fun e => ?_)⟩
        rw [e]
        exact ⟨i, i0, i1, ei⟩
    · have q6 : zQ [21, 22, 23, 24] σ s6 := by rw [e6, e5]; exact zQ_t (zQ_t (zQ_U (by decide)) (zQ_U (by decide))) (zQ_U (by decide))
      have nin := hi'.1 heq
      have e22 : s6 22 = up (σ 22) node key := by rw [e6, zU_up, e5, zU_row (by decide), zU_row (by decide)]
      have e21 : s6 21 3 = σ 21 3 + 1 := by rw [e6, zU_row (by decide), e5, zU_s]
      have e23 : s6 23 = up (σ 23) node (σ 21 3) := by rw [e6, zU_row (by decide), e5, zU_row (by decide), zU_up]
      have e24 : s6 24 = σ 24 := by rw [e6, zU_row (by decide), e5, zU_row (by decide), zU_row (by decide)]
      have esp : s6 23 node = σ 21 3 := by rw [e23, up_s]
      have hcf := cnt2592 hnode.1 hnode.2 (ky := σ 22) (by omega)
      have nd_ne : ∀ j, 0 ≤ j → j < σ 21 3 → σ 24 j ≠ node := fun j j0 j1 e => nin ⟨j, j0, j1, e⟩
      rw [esp]
      have a1 : ∀ j, j ≠ σ 21 3 → up (s6 24) (σ 21 3) node j = σ 24 j := fun j hj => by rw [up_o hj, e24]
      have ky1 : ∀ j, 0 ≤ j → j < σ 21 3 → s6 22 (σ 24 j) = σ 22 (σ 24 j) := fun j j0 j1 => by rw [e22, up_o (nd_ne j j0 j1)]
      refine t_H_rise (M := fun v => HIn σ v ∨ v = node) (by rw [e21]; omega) hnode ⟨n0, by rw [e21]; omega, ?_, fun v => ?_⟩ (fun j j0 j1 hj => ?_) (fun hi0 j j0 j1 hj => ?_) (fun τ hτ t1 t2 t3 => h c τ (zQ_t q6 (zQ_m hτ (by decide))) ?_ ⟨?_, ?_, ?_, ?_⟩ (fun v => ?_))
      · rw [e21, e23, up_up]
        intro j j0 j1
        by_cases e : j = σ 21 3
        · subst e
          rw [up_s, up_s]
          exact ⟨hnode.1, hnode.2, rfl⟩
        · rw [a1 j e, up_o (nd_ne j j0 (by omega))]
          exact hS j j0 (by omega)
      · rw [e21]
        constructor
        · rintro ⟨j, j0, j1, ej⟩
          by_cases e : j = σ 21 3
          · subst e
            rw [up_s] at ej
            exact Or.inr ej.symm
          · rw [a1 j e] at ej
            exact Or.inl ⟨j, j0, by omega, ej⟩
        · rintro (⟨j, j0, j1, ej⟩ | e)
          · exact ⟨j, j0, by omega, by rw [a1 j (by omega)]; exact ej⟩
          · exact ⟨σ 21 3, n0, by omega, by rw [up_s]; exact e.symm⟩
      · rw [e21] at j1
        rw [a1 j hj, a1 _ (by omega), ky1 j (by omega) (by omega), ky1 _ (by omega) (by omega)]
        exact hO j j0 (by omega)
      · rw [e21] at j1
        omega
      · rw [hτ 22 (by decide), e22]
      · rw [hτ 21 (by decide), e21]; omega
      · rw [hτ 21 (by decide), e21, hτ 22 (by decide), e22]
        rw [if_neg (by omega)] at hc1
        omega
      · rw [hτ 21 (by decide)]; exact t1
      · rw [hτ 21 (by decide), hτ 22 (by decide)]; exact t2
      · unfold HIn
        rw [hτ 21 (by decide)]
        exact t3 v
  · have e21 : s11 21 3 = σ 21 3 := by rw [e11, zU_o (by decide)]
    rw [e21]
    exact ⟨zRi (by omega) (by omega), fun s14 e14 => Or.inr ⟨by rw [e14, e11], d⟩⟩
theorem t_H_sink {K : zS → Prop} {σ : zS} {node : Int} {M : Int → Prop} (hn0 : 0 < σ 21 3) (hn : σ 21 3 ≤ 2592) (hnode : 0 ≤ node ∧ node < 2592) (hF : HF (σ 21 3) node M 0 σ) (hO : ∀ i, 0 < i → i < σ 21 3 → (i - 1) / 2 ≠ 0 → σ 22 (up (σ 24) 0 node ((i - 1) / 2)) ≤ σ 22 (up (σ 24) 0 node i)) (h : ∀ τ, zQ [23, 24] σ τ → HSp (σ 21 3) (τ 24) (τ 23) → HOr (σ 21 3) (τ 24) (σ 22) → (∀ v, MemA (σ 21 3) (τ 24) v ↔ M v) → K τ) : q_H_sink node K σ := by
  unfold q_H_sink
  refine ⟨fun s b τ => b = 2 * s + 1 ∧ zQ [23, 24] σ τ ∧ HF (σ 21 3) node M s τ ∧ (∀ i, 0 < i → i < σ 21 3 → (i - 1) / 2 ≠ s → σ 22 (up (τ 24) s node ((i - 1) / 2)) ≤ σ 22 (up (τ 24) s node i)) ∧ (0 < s → ∀ i, 0 < i → i < σ 21 3 → (i - 1) / 2 = s → σ 22 (up (τ 24) s node ((s - 1) / 2)) ≤ σ 22 (up (τ 24) s node i)), fun s _ _ => (2592 - s).toNat, ⟨rfl, zQ_r _ _, hF, hO, fun d => absurd d (by decide)⟩, ?_⟩
  rintro s b τ ⟨rfl, hq, hF, hO, hG⟩ - hzb
  obtain ⟨s0, s1, hH, hM⟩ := id hF
  have e22 : τ 22 = σ 22 := hq 22 (by decide)
  have e21 : τ 21 = σ 21 := hq 21 (by decide)
  have hs : ∀ i, up (τ 24) s node i = if i = s then node else τ 24 i := fun i => rfl
  have hnd : ∀ i, 0 ≤ i → i < σ 21 3 → i ≠ s → 0 ≤ τ 24 i ∧ τ 24 i < 2592 := fun i i0 i1 hi => by
    have := hH i i0 i1
    rw [up_o hi] at this
    exact ⟨this.1, this.2.1⟩
  rw [e22, e21]
  refine ⟨fun w t => w = s ∧ t = τ ∧ (∀ i, 0 < i → i < σ 21 3 → (i - 1) / 2 = s → σ 22 node ≤ σ 22 (up (τ 24) s node i)), fun w t hw _ => ?_, fun c => ⟨rfl, rfl, fun i i0 i1 hi => by omega⟩, fun c => ?_⟩
  · obtain ⟨rfl, rfl, hw3⟩ := hw
    refine ⟨by omega, fun s6 e6 => ⟨hnode, fun s8 e8 => h s8 ?_ ?_ ?_ ?_⟩⟩
    · rw [e8, e6]; exact zQ_t hq (zQ_t (zQ_U (by decide)) (zQ_U (by decide)))
    all_goals
      have e24 : s8 24 = up (t 24) w node := by rw [e8, zU_row (by decide), e6, zU_up]
      have e23 : s8 23 = up (t 23) node w := by rw [e8, zU_up, e6, zU_row (by decide)]
    · rw [e24, e23]; exact hH
    · rw [e24]
      intro i i0 i1
      by_cases e : (i - 1) / 2 = w
      · rw [e, up_s]
        exact hw3 i i0 i1 e
      · exact hO i i0 i1 e
    · rw [e24]; exact hM
  · refine ⟨fun w => (w = 2 * s + 1 ∨ w = 2 * s + 2) ∧ w < σ 21 3 ∧ ∀ i, 0 < i → i < σ 21 3 → (i - 1) / 2 = s → σ 22 (τ 24 w) ≤ σ 22 (τ 24 i), fun w hw _ => ?_, ?_⟩
    · obtain ⟨hw1, hw2, hw3⟩ := hw
      have hwne : w ≠ s := by omega
      have hw0 : 0 ≤ w := by omega
      have hb := hnd w hw0 hw2 hwne
      have hpw : (w - 1) / 2 = s := by omega
      refine ⟨hnode, by omega, hb, fun d => ⟨by omega, fun s1' e1 => ?_⟩, fun d => ⟨rfl, rfl, fun i i0 i1 hi => ?_⟩⟩
      · have f1 : s1' 24 s = τ 24 w := by rw [e1, zU_s]
        rw [f1]
        refine ⟨hb, fun s2 e2 x27 e27 => ?_⟩
        have e24 : s2 24 = up (τ 24) s (τ 24 w) := by rw [e2, zU_row (by decide), e1, zU_up]
        have e23 : s2 23 = up (τ 23) (τ 24 w) s := by rw [e2, zU_up, e1, zU_row (by decide)]
        obtain ⟨hF2, ha⟩ := HF_move hF hw0 hw2 hwne e24 e23
        refine ⟨⟨e27, ?_, hF2, fun i i0 i1 hi => ?_, fun hx0 i i0 i1 hi => ?_⟩, zRi (by omega) (by omega), by dsimp only; omega⟩
        · rw [e2, e1]; exact zQ_t hq (zQ_t (zQ_U (by decide)) (zQ_U (by decide)))
        · rw [ha, ha, if_neg hi]
          by_cases e1 : i = w
          · subst e1
            rw [if_pos rfl, if_pos hpw]
            omega
          · rw [if_neg e1]
            by_cases e2 : (i - 1) / 2 = s
            · rw [if_pos e2, if_neg (show i ≠ s by omega)]
              exact hw3 i i0 i1 e2
            · rw [if_neg e2]
              have o := hO i i0 i1 e2
              rw [hs, hs, if_neg e2] at o
              by_cases e3 : i = s
              · subst e3
                rw [if_pos rfl]
                have g := hG i0 w (by omega) hw2 hpw
                rw [hs, hs, if_neg e2, if_neg hwne] at g
                exact g
              · rw [if_neg e3]
                rw [if_neg e3] at o
                exact o
        · rw [ha, ha, hpw, if_neg (Ne.symm hwne), if_pos rfl, if_neg (show i ≠ w by omega), if_neg (show i ≠ s by omega)]
          have o := hO i i0 i1 (by omega)
          rw [hs, hs, hi, if_neg hwne, if_neg (show i ≠ s by omega)] at o
          exact o
      · rw [hs, if_neg (show i ≠ s by omega)]
        have := hw3 i i0 i1 hi
        omega
    · refine ⟨zRi (by omega) (by omega), fun d => ⟨Or.inl rfl, c, fun i i0 i1 hi => ?_⟩, fun d => ?_⟩
      · rw [show i = 2 * s + 1 by omega]
        omega
      · refine ⟨by omega, hnd _ (by omega) d (by omega), by omega, hnd _ (by omega) c (by omega), fun f => ⟨Or.inl rfl, c, fun i i0 i1 hi => ?_⟩, fun f => ⟨Or.inr (by omega), d, fun i i0 i1 hi => ?_⟩⟩
        · have : i = 2 * s + 1 ∨ i = 2 * s + 1 + 1 := by omega
          rcases this with e | e <;> rw [e] <;> omega
        · have : i = 2 * s + 1 ∨ i = 2 * s + 1 + 1 := by omega
          rcases this with e | e <;> rw [e] <;> omega
theorem HOr_min {n : Int} {a ky : Int → Int} (h : HOr n a ky) : ∀ (m : Nat) (i : Int), 0 ≤ i → i < n → i.toNat < m → ky (a 0) ≤ ky (a i) := by
  intro m
  induction m with
  | zero => intro i _ _ h; exact absurd h (Nat.not_lt_zero _)
  | succ m ih =>
    intro i i0 i1 hm
    by_cases e : i = 0
    · rw [e]; omega
    · have := ih ((i - 1) / 2) (by omega) (by omega) (by omega)
      have := h i (by omega) i1
      omega
theorem t_H_poll {K : Int → zS → Prop} {σ : zS} (hP : HP σ) (hne : σ 21 3 ≠ 0) (h : ∀ x τ, 0 ≤ x → x < 2592 → HIn σ x → (∀ v, HIn σ v → σ 22 x ≤ σ 22 v) → zQ [21, 23, 24] σ τ → HP τ → (∀ v, HIn τ v ↔ (HIn σ v ∧ v ≠ x)) → K x τ) : q_H_poll K σ := by
  obtain ⟨n0, n1, hS, hO⟩ := hP
  have nle : σ 21 3 ≤ 2592 := by have := cnt_le (fun i => decide (σ 22 (i : Nat) < 1000000000)) 2592; omega
  unfold q_H_poll
  refine ⟨fun _ x ex => ⟨zRi (by omega) (by omega), fun s7 e7 => ?_⟩, fun c => absurd c hne⟩
  subst ex
  have hx := hS 0 (by omega) (by omega)
  have hin : HIn σ (σ 24 0) := ⟨0, by omega, by omega, rfl⟩
  have hmin : ∀ v, HIn σ v → σ 22 (σ 24 0) ≤ σ 22 v := by
    rintro v ⟨i, i0, i1, rfl⟩
    exact HOr_min hO _ i i0 i1 (Nat.lt_succ_self _)
  have e21 : s7 21 3 = σ 21 3 - 1 := by rw [e7, zU_s]
  have e22 : s7 22 = σ 22 := by rw [e7, zU_row (by decide)]
  have e23 : s7 23 = σ 23 := by rw [e7, zU_row (by decide)]
  have e24 : s7 24 = σ 24 := by rw [e7, zU_row (by decide)]
  have q7 : zQ [21, 23, 24] σ s7 := by rw [e7]; exact zQ_U (by decide)
  have mem : ∀ v, (HIn σ v ∧ v ≠ σ 24 0) ↔ ∃ i, 0 < i ∧ i < σ 21 3 ∧ σ 24 i = v := fun v => by
    constructor
    · rintro ⟨⟨i, i0, i1, e⟩, hv⟩
      refine ⟨i, ?_, i1, e⟩
      by_cases q : i = 0
      · subst q
        exact absurd e.symm hv
      · omega
    · rintro ⟨i, i0, i1, e⟩
      refine ⟨⟨i, by omega, i1, e⟩, fun q => ?_⟩
      have := hS.inj (show 0 ≤ i by omega) i1 (show (0 : Int) ≤ 0 by omega) (by omega) (e.trans q)
      omega
  refine ⟨fun c => h _ s7 hx.1 hx.2.1 hin hmin q7 ⟨by omega, by rw [e22]; omega, fun i i0 i1 => by omega, fun i i0 i1 => by omega⟩ (fun v => ?_), fun c => ⟨by omega, ?_⟩⟩
  · rw [mem]
    constructor
    · rintro ⟨i, i0, i1, e⟩
      omega
    · rintro ⟨i, i0, i1, e⟩
      omega
  · rw [e21, e24]
    have hl := hS (σ 21 3 - 1) (by omega) (by omega)
    have e24' : ∀ i, up (s7 24) 0 (σ 24 (σ 21 3 - 1)) i = if i = 0 then σ 24 (σ 21 3 - 1) else σ 24 i := fun i => by rw [e24]; rfl
    refine t_H_sink (M := fun v => HIn σ v ∧ v ≠ σ 24 0) c (by omega) ⟨hl.1, hl.2.1⟩ ⟨by omega, c, ?_, fun v => ?_⟩ (fun i i0 i1 hi => ?_) (fun τ hτ t1 t2 t3 => h _ τ hx.1 hx.2.1 hin hmin (zQ_t q7 (zQ_m hτ (by decide))) ⟨?_, ?_, ?_, ?_⟩ (fun v => ?_))
    · intro i i0 i1
      rw [e24', e23]
      by_cases e : i = 0
      · rw [if_pos e, up_s]
        exact ⟨hl.1, hl.2.1, e.symm⟩
      · have hi := hS i i0 (by omega)
        rw [if_neg e, up_o (fun q => by have := hS.inj i0 (by omega) (by omega) (by omega) q; omega)]
        exact hi
    · refine Iff.trans ?_ (mem v).symm
      rw [e21]
      constructor
      · rintro ⟨i, i0, i1, e⟩
        rw [e24'] at e
        by_cases q : i = 0
        · rw [if_pos q] at e
          exact ⟨σ 21 3 - 1, by omega, by omega, e⟩
        · rw [if_neg q] at e
          exact ⟨i, by omega, by omega, e⟩
      · rintro ⟨i, i0, i1, e⟩
        by_cases q : i = σ 21 3 - 1
        · exact ⟨0, by omega, by omega, by rw [e24', if_pos rfl, ← q]; exact e⟩
        · exact ⟨i, by omega, by omega, by rw [e24', if_neg (by omega)]; exact e⟩
    · rw [e24', e24', if_neg hi, if_neg (by omega), e22]
      exact hO i i0 (by omega)
    · rw [hτ 21 (by decide)]; omega
    · rw [hτ 21 (by decide), hτ 22 (by decide), e22]; omega
    · rw [hτ 21 (by decide)]; exact t1
    · rw [hτ 21 (by decide), hτ 22 (by decide)]; exact t2
    · unfold HIn
      rw [hτ 21 (by decide)]
      exact t3 v
theorem t_H_clear {K : zS → Prop} {σ : zS} {u : Int} (hu : 0 ≤ u ∧ u ≤ 2592) (h : ∀ τ, zQ [21, 22] σ τ → (∀ v, 0 ≤ v → v < u → τ 22 v = 1000000000) → HP τ → (∀ v, ¬ HIn τ v) → K τ) : q_H_clear u K σ := by
  unfold q_H_clear q_J_fill4
  refine ⟨⟨by omega, hu.1, hu.2⟩, fun s2 e2 => h s2 ?_ (fun v v0 v1 => ?_) ⟨?_, ?_, fun i i0 i1 => ?_, fun i i0 i1 => ?_⟩ (fun v => ?_)⟩
  · rw [e2]; exact zQ_t (zQ_F (by decide)) (zQ_U (by decide))
  · rw [e2, zU_o (by decide), zFill_at v0 v1]
  all_goals have e : s2 21 3 = 0 := by rw [e2, zU_s]
  · rw [e]; omega
  · rw [e]; omega
  · rw [e] at i1; omega
  · rw [e] at i1; omega
  · rintro ⟨i, i0, i1, -⟩
    rw [e] at i1
    omega
