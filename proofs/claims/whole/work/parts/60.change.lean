/-! ===== tune, raise, flood, drop ===== -/
theorem RW_congr {L M : Int → Int} {r : Int} (r0 : 0 ≤ r) (r1 : r < 4) (e0 : M 0 = L 0) (e1 : M 1 = L 1) (e : ∀ j, 175 + 81 * r ≤ j → j < 256 + 81 * r → M j = L j) (h : RW L r) : RW M r := by
  have em := e (175 + 81 * r) (by omega) (by omega)
  have ip : ∀ p, inP M p ↔ inP L p := fun p => by unfold inP; rw [e0, e1]
  have eb : ∀ p g, bs M p g = bs L p g := fun p g => by show bes _ _ _ _ = bes _ _ _ _; rw [e0, e1]
  unfold RW
  rw [em]
  rcases h with q | ⟨q1, q2, q3, q4⟩
  · exact Or.inl q
  · refine Or.inr ⟨q1, q2, fun k k0 k1 => ?_, fun k k0 k1 => ?_⟩
    · rw [e (176 + 81 * r + k) (by omega) (by omega), e (216 + 81 * r + k) (by omega) (by omega), ip]
      exact q3 k k0 k1
    · obtain ⟨g, g0, g1, hg⟩ := q4 k k0 k1
      refine ⟨g, g0, g1, ?_⟩
      rw [e (176 + 81 * r + k) (by omega) (by omega), e (176 + 81 * r + (k + 1)) (by omega) (by omega), eb]
      exact hg
theorem LW_mk {L M : Int → Int} (h : LW L) (e0 : M 0 = L 0) (e1 : M 1 = L 1) (ht : TW M) (hh : GW L → ∀ p, 0 ≤ p → p < 81 → 0 ≤ M (13 + p) ∧ M (13 + p) ≤ 99) (hw : GW L → ∀ p, 0 ≤ p → p < 81 → M (94 + p) = 0 ∨ M (94 + p) = 1) (hr : GW L → RWs L → ∀ r, 0 ≤ r → r < 4 → RW M r) (hz : ∀ r, 0 ≤ r → r < 4 → L 0 = 0 → L (175 + 81 * r) = 0 → M (175 + 81 * r) = 0) : LW M := by
  rcases h with ⟨hL, hW⟩ | ⟨b0, b1, b2, b3⟩
  · exact Or.inl ⟨⟨by rw [e0, e1]; exact hL.1, ht, hh hL, hw hL⟩, hr hL hW⟩
  · exact Or.inr ⟨by rw [e0]; exact b0, by rw [e1]; exact b1, ht, fun r r0 r1 => hz r r0 r1 b0 (b3 r r0 r1)⟩
theorem trm_b {c n : Int} (c0 : 0 ≤ c) (c1 : c < 11) (h0 : zSV 0 c ≤ n) (h1 : n ≤ zSV 1 c) : 0 ≤ n ∧ (c = 0 → 1 ≤ n ∧ n ≤ 99) ∧ (c = 1 → n ≤ 4) ∧ (c = 2 → n ≤ 99) ∧ (c = 3 → n ≤ 9) ∧ (c = 4 → n ≤ 9) ∧ (c = 5 → n ≤ 99) ∧ (c = 6 → n ≤ 99) ∧ (c = 7 → n ≤ 3) ∧ (c = 8 → n ≤ 9) ∧ (c = 9 → n ≤ 9) ∧ (c = 10 → n ≤ 30) := by
  have : c = 0 ∨ c = 1 ∨ c = 2 ∨ c = 3 ∨ c = 4 ∨ c = 5 ∨ c = 6 ∨ c = 7 ∨ c = 8 ∨ c = 9 ∨ c = 10 := by omega
  rcases this with e | e | e | e | e | e | e | e | e | e | e <;> subst e
  · rw [show zSV 0 0 = 1 by decide] at h0; rw [show zSV 1 0 = 99 by decide] at h1; omega
  · rw [show zSV 0 1 = 0 by decide] at h0; rw [show zSV 1 1 = 4 by decide] at h1; omega
  · rw [show zSV 0 2 = 0 by decide] at h0; rw [show zSV 1 2 = 99 by decide] at h1; omega
  · rw [show zSV 0 3 = 0 by decide] at h0; rw [show zSV 1 3 = 9 by decide] at h1; omega
  · rw [show zSV 0 4 = 0 by decide] at h0; rw [show zSV 1 4 = 9 by decide] at h1; omega
  · rw [show zSV 0 5 = 0 by decide] at h0; rw [show zSV 1 5 = 99 by decide] at h1; omega
  · rw [show zSV 0 6 = 0 by decide] at h0; rw [show zSV 1 6 = 99 by decide] at h1; omega
  · rw [show zSV 0 7 = 0 by decide] at h0; rw [show zSV 1 7 = 3 by decide] at h1; omega
  · rw [show zSV 0 8 = 0 by decide] at h0; rw [show zSV 1 8 = 9 by decide] at h1; omega
  · rw [show zSV 0 9 = 0 by decide] at h0; rw [show zSV 1 9 = 9 by decide] at h1; omega
  · rw [show zSV 0 10 = 0 by decide] at h0; rw [show zSV 1 10 = 30 by decide] at h1; omega
theorem zSV0 {c : Int} (c0 : 0 ≤ c) (c1 : c < 11) : zSV 0 c = if c = 0 then 1 else 0 := by
  have : c = 0 ∨ c = 1 ∨ c = 2 ∨ c = 3 ∨ c = 4 ∨ c = 5 ∨ c = 6 ∨ c = 7 ∨ c = 8 ∨ c = 9 ∨ c = 10 := by omega
  rcases this with e | e | e | e | e | e | e | e | e | e | e <;> subst e <;> decide
theorem LW_term {L : Int → Int} {c n : Int} (h : LW L) (c0 : 0 ≤ c) (c1 : c < 11) (h0 : zSV 0 c ≤ n) (h1 : n ≤ zSV 1 c) : LW (up L (2 + c) n) := by
  have b := trm_b c0 c1 h0 h1
  have f : ∀ j, up L (2 + c) n j = if j = 2 + c then n else L j := fun _ => rfl
  have t := h.tw
  have o : ∀ j, j ≠ 2 + c → up L (2 + c) n j = L j := fun j hj => up_o hj
  refine LW_mk h (o 0 (by omega)) (o 1 (by omega)) ?_ (fun hL p p0 p1 => by rw [o _ (by omega)]; exact hL.2.2.1 p p0 p1) (fun hL p p0 p1 => by rw [o _ (by omega)]; exact hL.2.2.2 p p0 p1) (fun _ hW r r0 r1 => RW_congr r0 r1 (o 0 (by omega)) (o 1 (by omega)) (fun j j0 j1 => o j (by omega)) (hW r r0 r1)) (fun r r0 r1 _ e => by rw [o _ (by omega)]; exact e)
  unfold TW at t ⊢
  refine ⟨?_, ?_, ?_, ?_, ?_, ?_, ?_, ?_, ?_, ?_, ?_, ?_, ?_, ?_, ?_, ?_, ?_, ?_, ?_, ?_, ?_, ?_⟩ <;> rw [f] <;> split <;> omega
theorem LW_height {L : Int → Int} {p n : Int} (h : LW L) (hp : inP L p) (h0 : 0 ≤ n) (h1 : n ≤ 99) : LW (up L (13 + p) n) := by
  obtain ⟨hL, -⟩ := h.gw hp
  have pb := hp.b hL
  have o : ∀ j, j ≠ 13 + p → up L (13 + p) n j = L j := fun j hj => up_o hj
  have t := h.tw
  refine LW_mk h (o 0 (by omega)) (o 1 (by omega)) ?_ (fun hL q q0 q1 => ?_) (fun hL q q0 q1 => by rw [o _ (by omega)]; exact hL.2.2.2 q q0 q1) (fun _ hW r r0 r1 => RW_congr r0 r1 (o 0 (by omega)) (o 1 (by omega)) (fun j j0 j1 => o j (by omega)) (hW r r0 r1)) (fun r r0 r1 _ e => by rw [o _ (by omega)]; exact e)
  · unfold TW at t ⊢
    rw [o 2 (by omega), o 3 (by omega), o 4 (by omega), o 5 (by omega), o 6 (by omega), o 7 (by omega), o 8 (by omega), o 9 (by omega), o 10 (by omega), o 11 (by omega), o 12 (by omega)]
    exact t
  · by_cases e : q = p
    · rw [e, up_s]; exact ⟨h0, h1⟩
    · rw [o _ (by omega)]; exact hL.2.2.1 q q0 q1
theorem LW_wet {L : Int → Int} {p n : Int} (h : LW L) (hp : inP L p) (h0 : n = 0 ∨ n = 1) : LW (up L (94 + p) n) := by
  obtain ⟨hL, -⟩ := h.gw hp
  have pb := hp.b hL
  have o : ∀ j, j ≠ 94 + p → up L (94 + p) n j = L j := fun j hj => up_o hj
  have t := h.tw
  refine LW_mk h (o 0 (by omega)) (o 1 (by omega)) ?_ (fun hL q q0 q1 => by rw [o _ (by omega)]; exact hL.2.2.1 q q0 q1) (fun hL q q0 q1 => ?_) (fun _ hW r r0 r1 => RW_congr r0 r1 (o 0 (by omega)) (o 1 (by omega)) (fun j j0 j1 => o j (by omega)) (hW r r0 r1)) (fun r r0 r1 _ e => by rw [o _ (by omega)]; exact e)
  · unfold TW at t ⊢
    rw [o 2 (by omega), o 3 (by omega), o 4 (by omega), o 5 (by omega), o 6 (by omega), o 7 (by omega), o 8 (by omega), o 9 (by omega), o 10 (by omega), o 11 (by omega), o 12 (by omega)]
    exact t
  · by_cases e : q = p
    · rw [e, up_s]; exact h0
    · rw [o _ (by omega)]; exact hL.2.2.2 q q0 q1
/-- one cell changed on both sides, the land before remembered on both -/
theorem chg1 {L L' : Int → Int} {σ u2 w0 w2 : zS} (hi : INV σ) (hc : CC L σ) (hm : MM L (-1) (-1) σ) (hl : LW L) (hl' : LW L') (e0 : L' 0 = L 0) (e1 : L' 1 = L 1) (hCu : ∃ u1, zQ [9, 10] σ u1 ∧ RemC L σ u1 ∧ zQ [4, 64, 41] u1 u2 ∧ (∀ k, k ≠ 0 → u2 41 k = σ 41 k)) (h4 : u2 4 = L') (hMw : zQ [41, 43] u2 w0 ∧ (∀ k, k ≠ 3 → w0 41 k = u2 41 k) ∧ RemM L u2 w0) (hq : zQ [42] w0 w2) (h42 : w2 42 = L') : INV w2 := by
  obtain ⟨u1, q1, r1, q2, f2⟩ := hCu
  obtain ⟨q3, f3, r3⟩ := hMw
  obtain ⟨L0, hc0, hm0, hl0, t1, t2, t3, t4, t5⟩ := id hi
  have all : ∀ o, o ∉ [4, 9, 10, 41, 42, 43, 64] → w2 o = σ o := fun o ho => by
    simp only [List.mem_cons, List.not_mem_nil, or_false, not_or] at ho
    rw [hq o (by simp [ho]), q3 o (by simp [ho]), q2 o (by simp [ho]), q1 o (by simp [ho])]
  refine INV_chg hc hm t1 t3 t4 t5 ?_ h42 e0 e1 hl' (all 5 (by decide)) (fun o ho => all o (by revert ho; revert o; decide)) (fun k hk => ?_) ?_
  · rw [hq 4 (by decide), q3 4 (by decide)]; exact h4
  · rw [hq 41 (by decide), f3 k (by revert hk; revert k; decide), f2 k (by revert hk; revert k; decide)]
  · refine Ps_rem (σ := σ) (u := u2) hl t2 ⟨?_, ?_, ?_⟩ (f2 3 (by decide)) ?_ ⟨?_, ?_⟩ ?_ ?_
    · rw [q2 9 (by decide)]; exact r1.1
    · rw [q2 9 (by decide)]; exact r1.2.1
    · rw [q2 10 (by decide)]; exact r1.2.2
    · rw [q2 43 (by decide), q1 43 (by decide)]
    · rw [hq 41 (by decide), hq 43 (by decide)]; exact r3.1
    · rw [hq 41 (by decide), hq 43 (by decide)]; exact r3.2
    · rw [hq 9 (by decide), q3 9 (by decide)]
    · rw [hq 10 (by decide), q3 10 (by decide)]
theorem pr_tune {σ : zS} {c n : Int} (hi : INV σ) : q_A_tune c n (fun r u => q_M_tune c n (fun v w => Agr r v w) u) σ := by
  obtain ⟨L, hc, hm, hl, t1, t2, t3, t4, t5⟩ := id hi
  -- the reference
  have ref : ∀ (r : Int) (u : zS), u 42 = L → u 46 = σ 46 → (0 ≤ u 41 3 ∧ u 41 3 ≤ 8) → (¬ (0 ≤ c ∧ c < 11) → Agr r 0 (zU u 41 0 1)) → ((0 ≤ c ∧ c < 11) → ¬ (zSV 0 c ≤ n ∧ n ≤ zSV 1 c) → Agr r 0 (zU (zU u 41 0 0) 41 0 2)) → ((0 ≤ c ∧ c < 11) → (zSV 0 c ≤ n ∧ n ≤ zSV 1 c) → ∀ τ, zQ [41, 43] (zU (zU u 41 0 0) 41 0 0) τ → (∀ k, k ≠ 3 → τ 41 k = (zU (zU u 41 0 0) 41 0 0) 41 k) → RemM L (zU (zU u 41 0 0) 41 0 0) τ → Agr r (L (2 + c)) (zU τ 42 (2 + c) n)) → q_M_tune c n (fun v w => Agr r v w) u := by
    intro r u e42 e46 hu a1 a2 a0
    unfold q_M_tune
    refine t_M_isIn (fun c0 c1 => ⟨fun w => w = 0, fun w hw _ s4 e4 => ?_, n1b rfl⟩) (fun c0 => ⟨fun w => w = 1, fun w hw _ s4 e4 => ?_, n0b rfl⟩)
    · subst hw
      have z0 : s4 41 0 = 0 := by rw [e4, zU_s]
      rw [z0]
      refine ⟨fun _ => ⟨fun w => w = zSV 0 c, fun w hw _ => ?_, fun ne => by show (0 : Int) = _; rw [zSV0 c0 (by omega), if_neg ne], fun e => by show (1 : Int) = _; rw [zSV0 c0 (by omega), if_pos e]⟩, fun q => absurd q (by decide)⟩
      subst hw
      have f46 : s4 46 c = zSV 1 c := by rw [e4, zU_row (by decide), e46]; exact (t5 c c0 (by omega)).2
      rw [f46]
      refine ⟨by omega, t_M_isIn (fun d0 d1 => ⟨fun w => w = 0, fun w hw _ s13 e13 => ?_, n1a rfl⟩) (fun d => ⟨fun w => w = 2, fun w hw _ s13 e13 => ?_, n0a rfl⟩)⟩
      · subst hw
        have z0 : s13 41 0 = 0 := by rw [e13, zU_s]
        rw [z0]
        refine ⟨fun _ => t_M_remembers (L := L) ?_ ?_ (fun τ q f41 hR => ⟨by omega, fun x19 e19 s20 e20 => ?_⟩), fun q => absurd q (by decide)⟩
        · rw [e13, zU_row (by decide), e4, zU_row (by decide)]; exact e42
        · rw [e13, zU_k (by decide), e4, zU_k (by decide)]; exact hu
        · rw [e13, e4] at q f41 hR
          have := a0 ⟨c0, by omega⟩ ⟨d0, d1⟩ τ q f41 hR
          rw [e20, e19, q 42 (by decide), zU_row (by decide), zU_row (by decide), e42]
          exact this
      · subst hw
        have z0 : s13 41 0 = 2 := by rw [e13, zU_s]
        rw [z0]
        refine ⟨fun q => absurd q (by decide), fun _ => ?_⟩
        rw [e13, e4]
        exact a2 ⟨c0, by omega⟩ d
    · subst hw
      have z0 : s4 41 0 = 1 := by rw [e4, zU_s]
      rw [z0]
      refine ⟨fun q => absurd q (by decide), fun _ => ?_⟩
      rw [e4]
      exact a1 (by omega)
  have hu3 : 0 ≤ σ 41 3 ∧ σ 41 3 ≤ 8 := by have := t2.1; have := t2.2.1; omega
  unfold q_A_tune q_R_tune
  refine t_R_needAnswer (fun c0 c1 => ⟨⟨c0, c1⟩, t_R_needNumber (fun d0 d1 => t_L_value hc ⟨c0, c1⟩ rfl ?_) (fun d => Or.inr ⟨rfl, ref 2 σ hm.1 rfl hu3 (fun x => absurd ⟨c0, c1⟩ x) (fun _ _ => ?_) (fun _ x => absurd x d)⟩)⟩) (fun nk => Or.inl ⟨rfl, ref 1 σ hm.1 rfl hu3 (fun _ => Agr_x hi (by decide)) (fun x => absurd x nk) (fun x => absurd x nk)⟩)
  · unfold q_R_remember
    refine t_P_remember hc.1 t2.2.1 t2.2.2.1 (fun u1 q1 r1 => ?_)
    unfold q_L_setValue
    refine ⟨by omega, fun u2 e2 => ?_⟩
    have f42 : u2 42 = L := by rw [e2, zU_row (by decide), q1 42 (by decide)]; exact hm.1
    have f41 : u2 41 = σ 41 := by rw [e2, zU_row (by decide), q1 41 (by decide)]
    refine ref 0 _ (by rw [zU_row (by decide)]; exact f42) (by rw [zU_row (by decide), e2, zU_row (by decide), q1 46 (by decide)]) (by rw [zU_row (by decide), f41]; exact hu3) (fun x => absurd ⟨c0, c1⟩ x) (fun _ x => absurd ⟨d0, d1⟩ x) (fun _ _ τ q g41 hR => ⟨?_, fun _ => ?_, ?_⟩)
    · rw [zU_row (by decide), g41 0 (by decide), zU_s]
    · rw [zU_o (by decide), q 64 (by decide), zU_o (by decide), zU_o (by decide), zU_s]
    · refine chg1 (L' := up L (2 + c) n) hi hc hm hl (LW_term hl c0 c1 d0 d1) (up_o (by omega)) (up_o (by omega)) ⟨u1, q1, r1, ?_, fun k hk => ?_⟩ ?_ ⟨q, g41, hR⟩ (zQ_U (by decide)) ?_
      · refine zQ_t (zQ_t (zQ_t ?_ (zQ_U (by decide))) (zQ_U (by decide))) (zQ_U (by decide))
        rw [e2]
        exact zQ_U (by decide)
      · rw [zU_k hk, zU_k hk, zU_row (by decide), f41]
      · rw [zU_row (by decide), zU_row (by decide), zU_row (by decide), e2, zU_up, q1 4 (by decide), hc.1]
      · rw [zU_up, q 42 (by decide), zU_row (by decide), zU_row (by decide), zU_row (by decide), f42]
  · have : Agr 2 0 (zU (zU σ 41 0 0) 41 0 2) := Agr_x (INV_FR (FR_F (by decide)) hi) (by decide)
    exact this
