/-! ===== round agrees ===== -/
theorem INV_tape {σ τ : zS} (hi : INV σ) (fo : ∀ o ∈ core, o ≠ 1 → τ o = σ o) (ff : ∀ k ∈ fcor, k ≠ 11 → τ 41 k = σ 41 k) (g1 : τ 1 1 = 0) (g11 : τ 41 11 = 0) : INV τ := by
  obtain ⟨L, hc, hm, hl, h1, h2, h3, h4, h5⟩ := hi
  refine ⟨L, ?_, ?_, hl, ?_, ?_, ?_, ?_, ?_⟩
  · unfold CC
    rw [fo 4 (by decide) (by decide), fo 5 (by decide) (by decide)]
    exact hc
  · unfold MM
    rw [fo 42 (by decide) (by decide), fo 47 (by decide) (by decide), fo 48 (by decide) (by decide), ff 28 (by decide) (by decide), ff 29 (by decide) (by decide)]
    exact hm
  · unfold TpO
    rw [g11, g1, fo 2 (by decide) (by decide), fo 49 (by decide) (by decide)]
    exact ⟨rfl, by decide, h1.2.2⟩
  · unfold PsO
    rw [fo 9 (by decide) (by decide), fo 10 (by decide) (by decide), fo 43 (by decide) (by decide), ff 3 (by decide) (by decide)]
    exact h2
  · unfold ImO
    rw [fo 0 (by decide) (by decide), fo 40 (by decide) (by decide), fo 44 (by decide) (by decide), ff 5 (by decide) (by decide)]
    exact h3
  · rw [fo 0 (by decide) (by decide), ff 14 (by decide) (by decide)]
    exact h4
  · unfold SaO
    rw [fo 45 (by decide) (by decide), fo 46 (by decide) (by decide)]
    exact h5
theorem CoF_b {L : Int → Int} {A B a b : Int} (hL : GW L) (ia : inP L a) (ib : inP L b) : 0 ≤ CoF L A B a b ∧ CoF L A B a b ≤ 1000000000 ∧ (CoF L A B a b = 1000000000 ∨ CoF L A B a b ≤ 650592) := by
  obtain ⟨F, hF⟩ := fLab_ex (A := A) (B := B) hL ia
  have ibb := ib.b hL
  have bdF := lab_bd (M := 1004) (by decide) (fun v u w h => (fEd_b hL h).2.2) (fun v c h => by
    obtain ⟨g, hg, st, e1, e2⟩ := h
    have h3 := cst_b hL ia st.1.1
    omega) hF
  obtain ⟨m, hm⟩ := ca_ex (d := F) (p := b) (fun h h0 h1 => hF.2.2 (8 * b + h) ⟨by omega, by omega⟩)
  rw [CoF_eq hL ib ⟨F, hF, hm⟩]
  refine ⟨hm.1, hm.2.1, ?_⟩
  rcases hm.2.2.2 with z | ⟨h, hh, z⟩
  · exact Or.inl z
  · by_cases c : m = 1000000000
    · exact Or.inl c
    · have := hm.2.1
      have := bdF (8 * b + h) (by omega) (by omega) (by omega)
      exact Or.inr (by omega)
/-- the reference's search, behind its guard -/
theorem t_M_roundBody {K : Int → zS → Prop} {σ : zS} {L S : Int → Int} {n : Int} (hm : MM L (-1) (-1) σ) (hL : GW L) (hR : RB L) (hn : 2 ≤ n ∧ n ≤ 6) (h24 : σ 41 24 = n) (h57 : ∀ k, 0 ≤ k → k < n → σ 57 k = S k) (hS : ∀ k, 0 ≤ k → k < n → inP L (S k)) (h : ∀ τ, zQ [41, 51, 58] σ τ → (∀ k, k ≠ 26 → τ 41 k = σ 41 k) → K (if BkS (fun a b => CoF L (-1) (-1) (S a) (S b)) n 0 0 = 1000000000 then -1 else BkS (fun a b => CoF L (-1) (-1) (S a) (S b)) n 0 0) τ) : ∃ (I27 : Int → zS → Prop) (μ27 : Int → zS → Nat), (I27 0 σ) ∧ ∀ (y7 : Int) (σ8 : zS), I27 y7 σ8 → zR y7 → 
        ((σ8 41 24) ≤ y7 →
          ∀ σ11 : zS, σ11 = zU σ8 41 26 1000000000 → q_M_goesRound 7 0 1 0 (fun σ12 =>
            ((σ12 41 26) ≠ 1000000000 →
              K (σ12 41 26) σ12) ∧ ((σ12 41 26) = 1000000000 →
              K (-1) σ12)) σ11) ∧ (y7 < (σ8 41 24) →
          (0 ≤ y7 ∧ y7 < 6) ∧ (q_M_goesFrom (σ8 57 y7) (fun σ18 =>
              ∃ (I47 : Int → zS → Prop) (μ47 : Int → zS → Nat), (I47 0 σ18) ∧ ∀ (y19 : Int) (σ20 : zS), I47 y19 σ20 → zR y19 → 
              ((σ20 41 24) ≤ y19 →
                I27 (y7 + 1) σ20 ∧ zR (y7 + 1) ∧ μ27 (y7 + 1) σ20 < μ27 y7 σ8) ∧ (y19 < (σ20 41 24) →
                (0 ≤ y19 ∧ y19 < 6) ∧ (q_M_costAt (σ20 57 y19) (fun r28 σ27 =>
                    (0 ≤ (6 * y7) + y19 ∧ (6 * y7) + y19 < 36) ∧ (∀ σ30 : zS, σ30 = zU σ27 58 ((6 * y7) + y19) r28 → I47 (y19 + 1) σ30 ∧ zR (y19 + 1) ∧ μ47 (y19 + 1) σ30 < μ47 y19 σ20)) σ20))) σ8)) := by
  refine ⟨fun a s => zQ [51, 58] σ s ∧ 0 ≤ a ∧ a ≤ n ∧ ∀ a' b, 0 ≤ a' → a' < a → 0 ≤ b → b < n → s 58 (6 * a' + b) = CoF L (-1) (-1) (S a') (S b), fun a _ => (6 - a).toNat, ⟨zQ_r _ _, by decide, by omega, fun a' b x y => by omega⟩, ?_⟩
  rintro a s ⟨hq, a0, a1, hI⟩ -
  have s24 : s 41 24 = n := by rw [hq 41 (by decide)]; exact h24
  rw [s24]
  refine ⟨fun c s11 e11 => ?_, fun c => ⟨by omega, ?_⟩⟩
  · obtain ⟨W, hWe⟩ : ∃ W : Int → Int → Int, W = fun a b => CoF L (-1) (-1) (S a) (S b) := ⟨_, rfl⟩
    have hW : WB6 W n := fun a b a0 a1 b0 b1 => by
      rw [hWe]
      have := CoF_b (A := -1) (B := -1) hL (hS a a0 a1) (hS b b0 b1)
      exact ⟨this.1, this.2.1, CoF_sym hL (hS a a0 a1) (hS b b0 b1)⟩
    have hWb : ∀ a b, 0 ≤ a → a < n → 0 ≤ b → b < n → W a b = 1000000000 ∨ W a b ≤ 650592 := fun a b a0 a1 b0 b1 => by
      rw [hWe]
      exact (CoF_b (A := -1) (B := -1) hL (hS a a0 a1) (hS b b0 b1)).2.2
    rw [← hWe] at h
    have b := bn hn
    have q11 : zQ [41, 51, 58] σ s11 := by rw [e11]; exact zQ_t (zQ_m hq (by decide)) (zQ_U (by decide))
    have v26 : s11 41 26 = 1000000000 := by rw [e11, zU_s]
    have f11 : ∀ k, k ≠ 26 → s11 41 k = σ 41 k := fun k hk => by rw [e11, zU_k hk, hq 41 (by decide)]
    refine t_M_goesRound (W := W) (s := 0) hn hW hWb 7 (by decide) (by omega) (by omega) (by rw [f11 24 (by decide)]; exact h24) (fun a' b' x0 x1 y0 y1 => by rw [e11, zU_row (by decide), hWe]; exact hI a' b' x0 (by omega) y0 y1) (by decide) (by rw [v26]; decide) (fun τ q g41 g26 => ?_)
    have eB : Bk W n 7 0 0 = BkS W n 0 0 := rfl
    have bB := BkS_b (last := 0) (s := 0) hW hn (by omega) (by omega)
    have e26 : τ 41 26 = BkS W n 0 0 := by
      rw [g26, v26, eB]
      unfold lsr pl
      repeat' split
      all_goals omega
    have fin := h τ (zQ_t q11 (zQ_m q (by decide))) (fun k hk => by rw [g41 k hk]; exact f11 k hk)
    rw [e26]
    refine ⟨fun ne => ?_, fun e => ?_⟩
    · rw [if_neg ne] at fin; exact fin
    · rw [if_pos e] at fin; exact fin
  · have e57 : s 57 a = S a := by rw [hq 57 (by decide)]; exact h57 a a0 c
    rw [e57]
    refine t_M_goesFrom (MM_Q hm hq (by decide)) hL hR (hS a a0 c) (fun τ q hb hLab => ?_)
    have hG : GfP L (-1) (-1) (S a) τ := ⟨hb, hLab⟩
    refine ⟨fun b t => zQ [58] τ t ∧ 0 ≤ b ∧ b ≤ n ∧ ∀ a' b', 0 ≤ a' → (a' < a ∨ (a' = a ∧ b' < b)) → 0 ≤ b' → b' < n → t 58 (6 * a' + b') = CoF L (-1) (-1) (S a') (S b'), fun b _ => (6 - b).toNat, ⟨zQ_r _ _, by decide, by omega, fun a' b' x y z w => by rw [q 58 (by decide)]; exact hI a' b' x (by omega) z w⟩, ?_⟩
    rintro b t ⟨qt, b0, b1, hJ⟩ -
    have q2 : zQ [51, 58] σ t := zQ_t hq (zQ_t (zQ_m q (by decide)) (zQ_m qt (by decide)))
    have t24 : t 41 24 = n := by rw [q2 41 (by decide)]; exact h24
    rw [t24]
    refine ⟨fun d => ⟨⟨q2, by omega, by omega, fun a' b' x y z w => hJ a' b' x (by omega) z w⟩, zRi (by omega) (by omega), by dsimp only; omega⟩, fun d => ⟨by omega, ?_⟩⟩
    have f1 : t 57 b = S b := by rw [q2 57 (by decide)]; exact h57 b b0 d
    rw [f1]
    have hGt : GfP L (-1) (-1) (S a) t := by
      unfold GfP
      rw [qt 51 (by decide)]
      exact hG
    refine t_M_costOf hL (hS b b0 d) hGt (fun bb => ⟨by omega, fun s1 e1 => ⟨⟨by rw [e1]; exact zQ_t qt (zQ_U (by decide)), by omega, by omega, fun a' b' x y z u => ?_⟩, zRi (by omega) (by omega), by dsimp only; omega⟩⟩)
    rw [e1, zU_if]
    by_cases e : 6 * a' + b' = 6 * a + b
    · rw [if_pos e, show a' = a by omega, show b' = b by omega]
    · rw [if_neg e]
      exact hJ a' b' x (by omega) z u
theorem StP_congr {L t t' : Int → Int} {n : Int} (e : ∀ k, 0 ≤ k → k < 400 → t k = t' k) (h : StP L t n) : StP L t' n := by
  have hn := h.1
  refine ⟨hn, fun k k0 k1 => ?_⟩
  have a := h.2 k k0 k1
  rw [← e k k0 (by omega)]
  exact ⟨a.1, fun i i0 i1 => by rw [← e i i0 (by omega)]; exact a.2 i i0 i1⟩
theorem StP_dist {L t : Int → Int} {n : Int} (h : StP L t n) : ∀ a b, 0 ≤ a → a < n → 0 ≤ b → b < n → a ≠ b → t a ≠ t b := fun a b a0 a1 b0 b1 ne => by
  by_cases c : a < b
  · exact (h.2 b b0 b1).2 a a0 c
  · exact fun e => (h.2 a a0 a1).2 b b0 (by omega) e.symm
theorem pr_round {σ : zS} (hi : INV σ) : q_A_round (fun x u => q_M_round (fun v w => Agr x v w) u) σ := by
  obtain ⟨L, hc, hm, hl, h1, h2, h3, h4, h5⟩ := id hi
  have hn := hl.n
  have ref : ∀ (x : Int) (u : zS), MM L (-1) (-1) u → u 49 = σ 49 → u 41 = σ 41 → (¬ StP L (σ 49) (σ 41 11) → ∀ τ, zQ [41, 57] u τ → (∀ k ∈ fcor, k ≠ 11 → τ 41 k = u 41 k) → τ 41 11 = 0 → τ 41 0 = 1 → Agr x 0 τ) → (StP L (σ 49) (σ 41 11) → ∀ τ, zQ [41, 51, 57, 58] u τ → (∀ k ∈ fcor, k ≠ 11 → τ 41 k = u 41 k) → τ 41 11 = 0 → τ 41 0 = 0 → Agr x (if BkS (fun a b => CoF L (-1) (-1) (σ 49 a) (σ 49 b)) (σ 41 11) 0 0 = 1000000000 then -1 else BkS (fun a b => CoF L (-1) (-1) (σ 49 a) (σ 49 b)) (σ 41 11) 0 0) τ) → q_M_round (fun v w => Agr x v w) u := by
    intro x u hmu e49 e41 a1 a0
    unfold q_M_round
    have fc : ∀ k ∈ fcor, k ≠ 0 ∧ k ≠ 24 ∧ k ≠ 26 := by decide
    refine t_M_areStops hmu hn (fun st τ q f41 g11 g24 g57 => ⟨fun w => w = 0, fun w hw _ s4 e4 => ?_, n1a rfl⟩) (fun st τ q f41 g11 => ⟨fun w => w = 1, fun w hw _ s4 e4 => ?_, n0a rfl⟩)
    · rw [e49, e41] at st
      rw [e41] at g24 g57
      subst hw
      have z4 : s4 41 0 = 0 := by rw [e4, zU_s]
      rw [z4]
      refine ⟨fun _ => ?_, fun z => absurd z (by decide)⟩
      obtain ⟨hL, hW⟩ := hl.gw (st.2 0 (by decide) (by have := st.1; omega)).1
      have hm4 : MM L (-1) (-1) s4 := by
        rw [e4]
        refine MM_F ?_ (by decide)
        refine ⟨by rw [q 42 (by decide)]; exact hmu.1, fun g g0 g1 => ?_, by rw [f41 28 (by decide) (by decide)]; exact hmu.2.2.1, by rw [f41 29 (by decide) (by decide)]; exact hmu.2.2.2⟩
        rw [q 47 (by decide), q 48 (by decide)]
        exact hmu.2.1 g g0 g1
      refine t_M_roundBody (S := σ 49) (n := σ 41 11) hm4 hL hW.rb st.1 (by rw [e4, zU_k (by decide)]; exact g24) (fun k k0 k1 => by rw [e4, zU_row (by decide), g57 k k0 k1, e49]) (fun k k0 k1 => (st.2 k k0 k1).1) (fun τ2 q2 g41 => ?_)
      refine a0 st τ2 (zQ_t (zQ_m q (by decide)) (zQ_t (by rw [e4]; exact zQ_U (by decide)) (zQ_m q2 (by decide)))) (fun k hk hk2 => ?_) ?_ ?_
      · have f := fc k hk
        rw [g41 k f.2.2, e4, zU_k f.1]
        exact f41 k f.2.1 hk2
      · rw [g41 11 (by decide), e4, zU_k (by decide)]; exact g11
      · rw [g41 0 (by decide)]; exact z4
    · rw [e49, e41] at st
      subst hw
      have z4 : s4 41 0 = 1 := by rw [e4, zU_s]
      rw [z4]
      refine ⟨fun z => absurd z (by decide), fun _ => a1 st s4 (by rw [e4]; exact zQ_t q (zQ_U (by decide))) (fun k hk hk2 => ?_) ?_ z4⟩
      · have f := fc k hk
        rw [e4, zU_k f.1]
        exact f41 k f.2.1 hk2
      · rw [e4, zU_k (by decide)]; exact g11
  unfold q_A_round q_R_round q_T_size q_T_cut
  refine ⟨fun c => absurd c (by decide), fun _ => ⟨fun _ s1 e1 => ?_, fun c => by have := h1.2.1; omega⟩⟩
  have f1 : ∀ o, o ≠ 1 → s1 o = σ o := fun o ho => by rw [e1, zU_row ho]
  have g1 : s1 1 1 = 0 := by rw [e1, zU_s]
  have hc1 : CC L s1 := by
    unfold CC
    rw [f1 4 (by decide), f1 5 (by decide)]
    exact hc
  have e2 : s1 2 = σ 2 := f1 2 (by decide)
  have e11 : σ 1 1 = σ 41 11 := h1.1
  have core1 : ∀ (S : List Nat) (u : zS), zQ S s1 u → (∀ o ∈ core, o ∉ S) → ∀ o ∈ core, o ≠ 1 → u o = σ o := fun S u q hS o ho ho1 => by rw [q o (hS o ho)]; exact f1 o ho1
  refine t_N_takeRound hc1 hn (fun i i0 i1 => by rw [e2]; exact (h1.2.2 i i0 i1).2.1) (fun st τ q t28 t32 => n1b ?_) (fun st τ q => n0b ⟨rfl, ?_⟩)
  · rw [e2, e11] at st
    have st' : StP L (σ 49) (σ 41 11) := StP_congr (fun k k0 k1 => (h1.2.2 k k0 k1).1) st
    have hn6 := st.1
    obtain ⟨hL, hW⟩ := hl.gw (st.2 0 (by decide) (by omega)).1
    rw [e11] at t28 t32
    have eqS : ∀ k, 0 ≤ k → k < σ 41 11 → σ 2 k = σ 49 k := fun k k0 k1 => (h1.2.2 k k0 (by omega)).1
    refine t_N_leastRound (S := σ 49) (CC_Q hc1 q (by decide)) hL hW hn6 t28 (fun k k0 k1 => by rw [t32 k k0 k1, e2]; exact eqS k k0 k1) (fun k k0 k1 => (st'.2 k k0 k1).1) (StP_dist st') (fun a b a0 a1 b0 b1 => ?_) (fun τ2 q2 => ?_)
    · have := CoF_b (A := -1) (B := -1) hL (st'.2 a a0 a1).1 (st'.2 b b0 b1).1
      exact ⟨this.1, this.2.1, CoF_sym hL (st'.2 a a0 a1).1 (st'.2 b b0 b1).1⟩
    · have qq : zQ [12, 13, 15, 16, 17, 18, 19, 20, 21, 22, 23, 24, 28, 32, 33, 34] s1 τ2 := zQ_t (zQ_m q (by decide)) (zQ_m q2 (by decide))
      generalize (if BkS (fun a b => CoF L (-1) (-1) (σ 49 a) (σ 49 b)) (σ 41 11) 0 0 = 1000000000 then -1 else BkS (fun a b => CoF L (-1) (-1) (σ 49 a) (σ 49 b)) (σ 41 11) 0 0) = v at *
      have u41 : (zU τ2 64 0 v) 41 = σ 41 := by rw [zU_row (by decide), qq 41 (by decide), f1 41 (by decide)]
      refine ref 0 (zU τ2 64 0 v) ?_ ?_ u41 (fun z => absurd st' z) (fun _ τ' q' f' g' z' => ?_)
      · refine MM_U (MM_Q ?_ qq (by decide)) (by decide)
        unfold MM
        rw [f1 42 (by decide), f1 47 (by decide), f1 48 (by decide), f1 41 (by decide)]
        exact hm
      · rw [zU_row (by decide), qq 49 (by decide), f1 49 (by decide)]
      · refine ⟨z', fun _ => ?_, INV_tape hi (fun o ho ho1 => ?_) (fun k hk hk2 => ?_) ?_ g'⟩
        · rw [q' 64 (by decide), zU_s]
        · have ho2 : o ∉ [41, 51, 57, 58] ∧ o ≠ 64 ∧ o ∉ [12, 13, 15, 16, 17, 18, 19, 20, 21, 22, 23, 24, 28, 32, 33, 34] := by clear ho1; revert ho; revert o; decide
          rw [q' o ho2.1, zU_row ho2.2.1, qq o ho2.2.2]
          exact f1 o ho1
        · rw [f' k hk hk2, u41]
        · rw [q' 1 (by decide), zU_o (by decide), qq 1 (by decide)]; exact g1
  · rw [e2, e11] at st
    have st' : ¬ StP L (σ 49) (σ 41 11) := fun z => st (StP_congr (fun k k0 k1 => (h1.2.2 k k0 k1).1.symm) z)
    have u41 : τ 41 = σ 41 := by rw [q 41 (by decide), f1 41 (by decide)]
    refine ref 1 τ ?_ ?_ u41 (fun _ τ' q' f' g' z' => ?_) (fun z => absurd z st')
    · refine MM_Q ?_ q (by decide)
      unfold MM
      rw [f1 42 (by decide), f1 47 (by decide), f1 48 (by decide), f1 41 (by decide)]
      exact hm
    · rw [q 49 (by decide), f1 49 (by decide)]
    · refine ⟨z', fun z => absurd z (by decide), INV_tape hi (fun o ho ho1 => ?_) (fun k hk hk2 => ?_) ?_ g'⟩
      · have ho2 : o ∉ [41, 57] ∧ o ∉ [28, 32] := by clear ho1; revert ho; revert o; decide
        rw [q' o ho2.1, q o ho2.2]
        exact f1 o ho1
      · rw [f' k hk hk2, u41]
      · rw [q' 1 (by decide), q 1 (by decide)]; exact g1
