theorem MM_U' {L : Int → Int} {A B : Int} {σ : zS} {k v : Int} (h : MM L A B σ) : MM L A B (zU σ 4 k v) := MM_U h (by decide)
theorem FRq {σ τ : zS} {S : List Nat} (h : zQ S σ τ) : ∀ o, o ∉ S → τ o = σ o := h
theorem pr_raise {σ : zS} {p n : Int} (hi : INV σ) : q_A_raise p n (fun r u => q_M_raise p n (fun v w => Agr r v w) u) σ := by
  obtain ⟨L, hc, hm, hl, t1, t2, t3, t4, t5⟩ := id hi
  have hn := hl.n
  have hu3 : 0 ≤ σ 41 3 ∧ σ 41 3 ≤ 8 := by have := t2.1; have := t2.2.1; omega
  have ref : ∀ (r : Int) (u : zS), MM L (-1) (-1) u → (0 ≤ u 41 3 ∧ u 41 3 ≤ 8) → (¬ inP L p → Agr r 0 (zU u 41 0 1)) → (inP L p → ¬ ((-99 ≤ n ∧ n ≤ 99) ∧ (0 ≤ L (13 + p) + n ∧ L (13 + p) + n ≤ 99)) → Agr r 0 (zU (zU u 41 0 0) 41 0 2)) → (inP L p → ((-99 ≤ n ∧ n ≤ 99) ∧ (0 ≤ L (13 + p) + n ∧ L (13 + p) + n ≤ 99)) → ∀ τ, zQ [41, 43] (zU (zU u 41 0 0) 41 0 0) τ → (∀ k, k ≠ 3 → τ 41 k = (zU (zU u 41 0 0) 41 0 0) 41 k) → RemM L (zU (zU u 41 0 0) 41 0 0) τ → Agr r (L (13 + p) + n) (zU τ 42 (13 + p) (L (13 + p) + n))) → q_M_raise p n (fun v w => Agr r v w) u := by
    intro r u hmu hu a1 a2 a0
    unfold q_M_raise
    refine t_M_isPlace hmu hn (fun i => ⟨fun w => w = 0, fun w hw _ s4 e4 => ?_, n1a rfl⟩) (fun i => ⟨fun w => w = 1, fun w hw _ s4 e4 => ?_, n0a rfl⟩)
    · subst hw
      have z0 : s4 41 0 = 0 := by rw [e4, zU_s]
      obtain ⟨hL, hW⟩ := hl.gw i
      have ib := i.b hL
      have hh := hL.2.2.1 p ib.1 ib.2
      have hm4 : MM L (-1) (-1) s4 := by rw [e4]; exact MM_F hmu (by decide)
      rw [z0]
      refine ⟨fun _ => ?_, fun q => absurd q (by decide)⟩
      have J : ∀ (w9 : Int) (σ10 : zS), (σ10 = s4 ∧ ((w9 = 2 ∧ ¬ ((-99 ≤ n ∧ n ≤ 99) ∧ (0 ≤ L (13 + p) + n ∧ L (13 + p) + n ≤ 99))) ∨ (w9 = 0 ∧ ((-99 ≤ n ∧ n ≤ 99) ∧ (0 ≤ L (13 + p) + n ∧ L (13 + p) + n ≤ 99))))) → zR w9 → ∀ σ11 : zS, σ11 = zU σ10 41 0 w9 → ((σ11 41 0) ≤ 0 → q_M_remembers (fun σ14 => (0 ≤ 13 + p ∧ 13 + p < 499) ∧ (zR ((σ14 42 (13 + p)) + n) ∧ (∀ σ18 : zS, σ18 = zU σ14 42 (13 + p) ((σ14 42 (13 + p)) + n) → Agr r (σ18 42 (13 + p)) σ18))) σ11) ∧ (0 < (σ11 41 0) → Agr r 0 σ11) := by
        rintro w9 s10 ⟨rfl, hw⟩ - s11 e11
        have z : s11 41 0 = w9 := by rw [e11, zU_s]
        rw [z]
        refine ⟨fun d => ?_, fun d => ?_⟩
        · have hw' := hw.resolve_left (fun q => by omega)
          refine t_M_remembers (L := L) ?_ ?_ (fun τ q f41 hR => ?_)
          · rw [e11, zU_row (by decide)]; exact hm4.1
          · rw [e11, zU_k (by decide), e4, zU_k (by decide)]; exact hu
          · rw [e11, hw'.1, e4] at q f41 hR
            have t42 : τ 42 = L := by rw [q 42 (by decide), zU_row (by decide), zU_row (by decide)]; exact hmu.1
            rw [t42]
            refine ⟨by omega, zRi (by omega) (by omega), fun s18 e18 => ?_⟩
            have := a0 i hw'.2 τ q f41 hR
            rw [e18, zU_s]
            exact this
        · have hw' := hw.resolve_right (fun q => by omega)
          rw [e11, hw'.1, e4]
          exact a2 i hw'.2
      refine t_M_isIn (fun d0 d1 => ⟨_, J, fun s => s = s4 ∧ ¬ ((-99 ≤ n ∧ n ≤ 99) ∧ (0 ≤ L (13 + p) + n ∧ L (13 + p) + n ≤ 99)), fun s hs => ⟨hs.1, Or.inl ⟨rfl, hs.2⟩⟩, n1a ?_⟩) (fun d => ⟨_, J, fun s => s = s4 ∧ ¬ ((-99 ≤ n ∧ n ≤ 99) ∧ (0 ≤ L (13 + p) + n ∧ L (13 + p) + n ≤ 99)), fun s hs => ⟨hs.1, Or.inl ⟨rfl, hs.2⟩⟩, n0a ⟨rfl, fun x => d x.1⟩⟩)
      rw [hm4.1]
      exact ⟨by omega, zRi (by omega) (by omega), t_M_isIn (fun f0 f1 => n1a ⟨rfl, Or.inr ⟨rfl, ⟨d0, d1⟩, f0, f1⟩⟩) (fun f => n0a ⟨rfl, fun x => f x.2⟩)⟩
    · subst hw
      have z0 : s4 41 0 = 1 := by rw [e4, zU_s]
      rw [z0]
      refine ⟨fun q => absurd q (by decide), fun _ => ?_⟩
      rw [e4]
      exact a1 i
  have x2 : Agr 2 0 (zU (zU σ 41 0 0) 41 0 2) := Agr_x (INV_FR (FR_F (by decide)) hi) (by decide)
  unfold q_A_raise q_R_raise
  refine t_R_needPlace hc hn (fun i => t_R_needNumber (fun d0 d1 => ?_) (fun d => Or.inr ⟨rfl, ref 2 σ hm hu3 (fun x => absurd i x) (fun _ _ => x2) (fun _ x => absurd x.1 d)⟩)) (fun ni => Or.inl ⟨rfl, ref 1 σ hm hu3 (fun _ => Agr_x hi (by decide)) (fun x => absurd x ni) (fun x => absurd x ni)⟩)
  obtain ⟨hL, hW⟩ := hl.gw i
  have ib := i.b hL
  have hh := hL.2.2.1 p ib.1 ib.2
  refine t_L_height hc hL i (fun x5 e5 => ⟨zRi (by omega) (by omega), t_R_needNumber (fun f0 f1 => ?_) (fun f => Or.inr ⟨rfl, ref 2 σ hm hu3 (fun x => absurd i x) (fun _ _ => x2) (fun _ x => absurd (by omega) f)⟩)⟩)
  unfold q_R_remember
  refine t_P_remember hc.1 t2.2.1 t2.2.2.1 (fun u1 q1 r1 => ?_)
  unfold q_L_setHeight
  refine ⟨by omega, fun u2 e2 => ?_⟩
  have f41 : u2 41 = σ 41 := by rw [e2, zU_row (by decide), q1 41 (by decide)]
  have hmu : MM L (-1) (-1) (zU u2 64 0 x5) := MM_U (by rw [e2]; exact MM_U' (MM_Q hm q1 (by decide))) (by decide)
  refine ref 0 _ hmu (by rw [zU_row (by decide), f41]; exact hu3) (fun x => absurd i x) (fun _ x => absurd ⟨⟨d0, d1⟩, by omega, by omega⟩ x) (fun _ _ τ q g41 hR => ⟨?_, fun _ => ?_, ?_⟩)
  · rw [zU_row (by decide), g41 0 (by decide), zU_s]
  · rw [zU_o (by decide), q 64 (by decide), zU_o (by decide), zU_o (by decide), zU_s]
    exact e5
  · refine chg1 (L' := up L (13 + p) (L (13 + p) + n)) hi hc hm hl (LW_height hl i (by omega) (by omega)) (up_o (by omega)) (up_o (by omega)) ⟨u1, q1, r1, ?_, fun k hk => ?_⟩ ?_ ⟨q, g41, hR⟩ (zQ_U (by decide)) ?_
    · refine zQ_t (zQ_t (zQ_t ?_ (zQ_U (by decide))) (zQ_U (by decide))) (zQ_U (by decide))
      rw [e2]
      exact zQ_U (by decide)
    · rw [zU_k hk, zU_k hk, zU_row (by decide), f41]
    · rw [zU_row (by decide), zU_row (by decide), zU_row (by decide), e2, zU_up, q1 4 (by decide), hc.1, e5]
    · rw [zU_up, q 42 (by decide), zU_row (by decide), zU_row (by decide), hmu.1]
theorem pr_flood {σ : zS} {p n : Int} (hi : INV σ) (hn01 : n = 0 ∨ n = 1) : q_A_flood p n (fun r u => q_M_flood p n (fun v w => Agr r v w) u) σ := by
  obtain ⟨L, hc, hm, hl, t1, t2, t3, t4, t5⟩ := id hi
  have hn := hl.n
  have hu3 : 0 ≤ σ 41 3 ∧ σ 41 3 ≤ 8 := by have := t2.1; have := t2.2.1; omega
  have ref : ∀ (r : Int) (u : zS), MM L (-1) (-1) u → (0 ≤ u 41 3 ∧ u 41 3 ≤ 8) → (¬ inP L p → Agr r 0 (zU u 41 0 1)) → (inP L p → ∀ τ, zQ [41, 43] (zU u 41 0 0) τ → (∀ k, k ≠ 3 → τ 41 k = (zU u 41 0 0) 41 k) → RemM L (zU u 41 0 0) τ → Agr r (if L (94 + p) = n then 0 else 1) (zU τ 42 (94 + p) n)) → q_M_flood p n (fun v w => Agr r v w) u := by
    intro r u hmu hu a1 a0
    unfold q_M_flood
    refine t_M_isPlace hmu hn (fun i => ⟨fun w => w = 0, fun w hw _ s4 e4 => ?_, n1a rfl⟩) (fun i => ⟨fun w => w = 1, fun w hw _ s4 e4 => ?_, n0a rfl⟩)
    · subst hw
      have z0 : s4 41 0 = 0 := by rw [e4, zU_s]
      obtain ⟨hL, hW⟩ := hl.gw i
      have ib := i.b hL
      have hwt := hL.2.2.2 p ib.1 ib.2
      rw [z0]
      refine ⟨fun _ => t_M_remembers (L := L) (by rw [e4, zU_row (by decide)]; exact hmu.1) (by rw [e4, zU_k (by decide)]; exact hu) (fun τ q f41 hR => ?_), fun q => absurd q (by decide)⟩
      rw [e4] at q f41 hR
      have hmτ : MM L (-1) (-1) τ := by
        refine ⟨?_, fun g g0 g1 => ?_, ?_, ?_⟩
        · rw [q 42 (by decide), zU_row (by decide)]; exact hmu.1
        · rw [q 47 (by decide), q 48 (by decide), zU_row (by decide), zU_row (by decide)]; exact hmu.2.1 g g0 g1
        · rw [f41 28 (by decide), zU_k (by decide)]; exact hmu.2.2.1
        · rw [f41 29 (by decide), zU_k (by decide)]; exact hmu.2.2.2
      have a := a0 i τ q f41 hR
      have J : ∀ r9, r9 = L (94 + p) → ∃ J53 : Int → Prop, (∀ (w10 : Int), J53 w10 → zR w10 → (0 ≤ 94 + p ∧ 94 + p < 499) ∧ (∀ σ12 : zS, σ12 = zU τ 42 (94 + p) w10 → (r9 = n → Agr r 0 σ12) ∧ (r9 ≠ n → Agr r 1 σ12))) ∧ ((n = 0 → J53 0) ∧ (n ≠ 0 → J53 1)) := by
        intro r9 e9
        refine ⟨fun w => w = n, fun w hw _ => ⟨by omega, fun s12 e12 => ?_⟩, fun q => q.symm, fun q => by show (1 : Int) = n; omega⟩
        rw [e12, hw, e9]
        refine ⟨fun d => ?_, fun d => ?_⟩
        · rw [if_pos d] at a; exact a
        · rw [if_neg d] at a; exact a
      exact t_M_isWet hmτ (by omega) (fun w => J 1 w.symm) (fun w => J 0 (by omega))
    · subst hw
      have z0 : s4 41 0 = 1 := by rw [e4, zU_s]
      rw [z0]
      refine ⟨fun q => absurd q (by decide), fun _ => ?_⟩
      rw [e4]
      exact a1 i
  unfold q_A_flood q_R_flood
  refine t_R_needPlace hc hn (fun i => ?_) (fun ni => ⟨rfl, ref 1 σ hm hu3 (fun _ => Agr_x hi (by decide)) (fun x => absurd x ni)⟩)
  obtain ⟨hL, hW⟩ := hl.gw i
  have ib := i.b hL
  have hwt := hL.2.2.2 p ib.1 ib.2
  have fin : ∀ r3, r3 = L (94 + p) → ∃ J22 : Int → Prop, (∀ (w4 : Int), J22 w4 → zR w4 → q_R_remember (fun σ5 => q_L_setWet p n (fun σ6 => (w4 = 0 ∨ w4 = 1) ∧ q_M_flood p n (fun v w => Agr 0 v w) (zU σ6 64 0 w4)) σ5) σ) ∧ ((r3 = n → J22 0) ∧ (r3 ≠ n → J22 1)) := by
    intro r3 e3
    refine ⟨fun w => w = if L (94 + p) = n then 0 else 1, fun w4 hw _ => ?_, fun d => by show (0 : Int) = _; rw [if_pos (by omega)], fun d => by show (1 : Int) = _; rw [if_neg (by omega)]⟩
    unfold q_R_remember
    refine t_P_remember hc.1 t2.2.1 t2.2.2.1 (fun u1 q1 r1 => ?_)
    have main : ∀ u2, u2 = zU u1 4 (94 + p) n → (w4 = 0 ∨ w4 = 1) ∧ q_M_flood p n (fun v w => Agr 0 v w) (zU u2 64 0 w4) := by
      intro u2 e2
      refine ⟨by rw [hw]; split <;> simp, ?_⟩
      have f41 : u2 41 = σ 41 := by rw [e2, zU_row (by decide), q1 41 (by decide)]
      have hmu : MM L (-1) (-1) (zU u2 64 0 w4) := MM_U (by rw [e2]; exact MM_U' (MM_Q hm q1 (by decide))) (by decide)
      refine ref 0 _ hmu (by rw [zU_row (by decide), f41]; exact hu3) (fun x => absurd i x) (fun _ τ q g41 hR => ⟨?_, fun _ => ?_, ?_⟩)
      · rw [zU_row (by decide), g41 0 (by decide), zU_s]
      · rw [zU_o (by decide), q 64 (by decide), zU_o (by decide), zU_s, hw]
      · refine chg1 (L' := up L (94 + p) n) hi hc hm hl (LW_wet hl i hn01) (up_o (by omega)) (up_o (by omega)) ⟨u1, q1, r1, ?_, fun k hk => ?_⟩ ?_ ⟨q, g41, hR⟩ (zQ_U (by decide)) ?_
        · refine zQ_t (zQ_t ?_ (zQ_U (by decide))) (zQ_U (by decide))
          rw [e2]
          exact zQ_U (by decide)
        · rw [zU_k hk, zU_row (by decide), f41]
        · rw [zU_row (by decide), zU_row (by decide), e2, zU_up, q1 4 (by decide), hc.1]
        · rw [zU_up, q 42 (by decide), zU_row (by decide), hmu.1]
    unfold q_L_setWet
    refine ⟨fun d => ⟨by omega, fun s e => main s (by rw [e, d])⟩, fun d => ⟨by omega, fun s e => main s (by rw [e, show n = 1 by omega])⟩⟩
  exact t_L_isWet hc hL i (fun w => fin 1 w.symm) (fun w => fin 0 (by omega))
