/-! ===== drop, undo, image, back ===== -/
def clr (L : Int → Int) (r : Int) : Int → Int := fun c => if 175 + 81 * r ≤ c ∧ c < 256 + 81 * r then 0 else L c
theorem LW_clr {L : Int → Int} {r : Int} (h : LW L) (r0 : 0 ≤ r) (r1 : r < 4) : LW (clr L r) := by
  have o : ∀ j, j < 175 → clr L r j = L j := fun j hj => if_neg (by omega)
  have t := h.tw
  refine LW_mk h (o 0 (by omega)) (o 1 (by omega)) ?_ (fun hL q q0 q1 => by rw [o _ (by omega)]; exact hL.2.2.1 q q0 q1) (fun hL q q0 q1 => by rw [o _ (by omega)]; exact hL.2.2.2 q q0 q1) (fun hL hW q q0 q1 => ?_) (fun q q0 q1 _ e => ?_)
  · unfold TW at t ⊢
    rw [o 2 (by omega), o 3 (by omega), o 4 (by omega), o 5 (by omega), o 6 (by omega), o 7 (by omega), o 8 (by omega), o 9 (by omega), o 10 (by omega), o 11 (by omega), o 12 (by omega)]
    exact t
  · by_cases e : q = r
    · refine Or.inl ?_
      rw [e]
      exact if_pos (by omega)
    · exact RW_congr q0 q1 (o 0 (by omega)) (o 1 (by omega)) (fun j j0 j1 => if_neg (by omega)) (hW q q0 q1)
  · by_cases e2 : q = r
    · rw [e2]
      exact if_pos (by omega)
    · rw [show clr L r (175 + 81 * q) = L (175 + 81 * q) from if_neg (by omega)]
      exact e
theorem pr_drop {σ : zS} {r : Int} (hi : INV σ) : q_A_drop r (fun x u => q_M_drop r (fun v w => Agr x v w) u) σ := by
  obtain ⟨L, hc, hm, hl, t1, t2, t3, t4, t5⟩ := id hi
  have hu3 : 0 ≤ σ 41 3 ∧ σ 41 3 ≤ 8 := by have := t2.1; have := t2.2.1; omega
  have ref : ∀ (x : Int) (u : zS), MM L (-1) (-1) u → (0 ≤ u 41 3 ∧ u 41 3 ≤ 8) → (¬ (0 ≤ r ∧ r < 4) → Agr x 0 (zU u 41 0 1)) → ((0 ≤ r ∧ r < 4) → L (175 + 81 * r) = 0 → Agr x 0 (zU u 41 0 2)) → ((0 ≤ r ∧ r < 4) → L (175 + 81 * r) ≠ 0 → ∀ τ w, zQ [41, 43] (zU u 41 0 0) τ → (∀ k, k ≠ 3 → τ 41 k = (zU u 41 0 0) 41 k) → RemM L (zU u 41 0 0) τ → zQ [42] τ w → w 42 = clr L r → Agr x (L (175 + 81 * r)) w) → q_M_drop r (fun v w => Agr x v w) u := by
    intro x u hmu hu a1 a2 a0
    have guard := gd3 (σ := u) (K := fun s => Agr x 0 s) (c1 := ¬ (0 ≤ r ∧ r < 4)) (c2 := L (175 + 81 * r) = 0) (c3 := False) (body := fun σ5 => q_M_remembers (fun σ8 => q_M_many r (fun r10 σ9 => ∃ (I49 : Int → zS → Prop) (μ49 : Int → zS → Nat), (I49 0 σ9) ∧ ∀ (y11 : Int) (σ12 : zS), I49 y11 σ12 → zR y11 → (81 ≤ y11 → Agr x r10 σ12) ∧ (y11 < 81 → (0 ≤ (175 + (81 * r)) + y11 ∧ (175 + (81 * r)) + y11 < 499) ∧ (∀ σ15 : zS, σ15 = zU σ12 42 ((175 + (81 * r)) + y11) 0 → I49 (y11 + 1) σ15 ∧ zR (y11 + 1) ∧ μ49 (y11 + 1) σ15 < μ49 y11 σ12))) σ8) σ5) a1 (fun p q => a2 (Classical.not_not.mp p) q) (fun _ _ p => p.elim) (fun p q _ => ?_)
    · unfold q_M_drop
      refine t_M_isRoad (fun b0 b1 => ⟨fun w s => s = u ∧ GdP (¬ (0 ≤ r ∧ r < 4)) (L (175 + 81 * r) = 0) False w, fun w s4 hj _ => guard w s4 hj, n1b (t_M_many hmu ⟨b0, b1⟩ ⟨fun e => ⟨rfl, Or.inr ⟨fun p => p ⟨b0, b1⟩, Or.inr ⟨e, Or.inr ⟨rfl, id⟩⟩⟩⟩, fun e => ⟨rfl, Or.inr ⟨fun p => p ⟨b0, b1⟩, Or.inl ⟨rfl, e⟩⟩⟩⟩)⟩) (fun b => ⟨fun w s => s = u ∧ GdP (¬ (0 ≤ r ∧ r < 4)) (L (175 + 81 * r) = 0) False w, fun w s4 hj _ => guard w s4 hj, n0b ⟨rfl, Or.inl ⟨rfl, b⟩⟩⟩)
    · have hr := Classical.not_not.mp p
      refine t_M_remembers (L := L) (by rw [zU_row (by decide)]; exact hmu.1) (by rw [zU_k (by decide)]; exact hu) (fun τ q1 f41 hR => ?_)
      have t42 : τ 42 = L := by rw [q1 42 (by decide), zU_row (by decide)]; exact hmu.1
      unfold q_M_many
      rw [t42]
      refine ⟨by omega, fun y s => zQ [42] τ s ∧ 0 ≤ y ∧ y ≤ 81 ∧ ∀ c, s 42 c = if 175 + 81 * r ≤ c ∧ c < 175 + 81 * r + y then 0 else L c, fun y _ => (81 - y).toNat, ⟨zQ_r _ _, by decide, by decide, fun c => by rw [if_neg (by omega), t42]⟩, ?_⟩
      rintro y s ⟨hq, y0, y1, hI⟩ -
      refine ⟨fun d => a0 hr q τ s q1 f41 hR hq ?_, fun d => ⟨by omega, fun s1 e1 => ⟨⟨by rw [e1]; exact zQ_t hq (zQ_U (by decide)), by omega, by omega, fun c => ?_⟩, zRi (by omega) (by omega), by dsimp only; omega⟩⟩⟩
      · funext c
        rw [hI c, show y = 81 by omega]
        unfold clr
        rw [show 175 + 81 * r + 81 = 256 + 81 * r by omega]
      · rw [e1, zU_if, hI c]
        by_cases e : c = 175 + 81 * r + y
        · rw [if_pos e, if_pos (by omega)]
        · rw [if_neg e]
          by_cases e2 : 175 + 81 * r ≤ c ∧ c < 175 + 81 * r + y
          · rw [if_pos e2, if_pos (by omega)]
          · rw [if_neg e2, if_neg (by omega)]
  unfold q_A_drop q_R_drop
  refine t_R_needRoad (fun b0 b1 => t_R_needBuilt hc ⟨b0, b1⟩ (fun nz => ?_) (fun z => Or.inr ⟨rfl, ref 2 σ hm hu3 (fun x => absurd ⟨b0, b1⟩ x) (fun _ _ => Agr_x hi (by decide)) (fun _ x => absurd z x)⟩)) (fun b => Or.inl ⟨rfl, ref 1 σ hm hu3 (fun _ => Agr_x hi (by decide)) (fun x => absurd x b) (fun x => absurd x b)⟩)
  refine t_L_roadSize hc ⟨b0, b1⟩ ?_
  unfold q_R_remember
  refine t_P_remember hc.1 t2.2.1 t2.2.2.1 (fun u1 q1 r1 => ?_)
  unfold q_L_clearRoad q_J_fill4
  intro x1 e1
  rw [Int.mul_comm] at e1
  refine ⟨zRi (by omega) (by omega), zRi (by omega) (by omega), ⟨by omega, by omega, by show x1 + 81 ≤ 499; omega⟩, ?_⟩
  generalize hu2 : zFill u1 4 x1 (x1 + 81) 0 = u2
  have f4 : u2 4 = clr L r := by
    funext c
    rw [← hu2]
    unfold zFill
    rw [zW_s, q1 4 (by decide), hc.1]
    unfold clr
    rw [e1, show 175 + 81 * r + 81 = 256 + 81 * r by omega]
  have q2 : zQ [4] u1 u2 := by rw [← hu2]; exact zQ_F (by decide)
  have f41 : u2 41 = σ 41 := by rw [q2 41 (by decide), q1 41 (by decide)]
  have hmu : MM L (-1) (-1) (zU u2 64 0 (L (175 + 81 * r))) := MM_U (MM_Q (MM_Q hm q1 (by decide)) q2 (by decide)) (by decide)
  refine ref 0 _ hmu (by rw [zU_row (by decide), f41]; exact hu3) (fun x => absurd ⟨b0, b1⟩ x) (fun _ x => absurd x nz) (fun _ _ τ w q g41 hR hqw hw => ⟨?_, fun _ => ?_, ?_⟩)
  · rw [hqw 41 (by decide), g41 0 (by decide), zU_s]
  · rw [hqw 64 (by decide), q 64 (by decide), zU_o (by decide), zU_s]
  · refine chg1 (L' := clr L r) hi hc hm hl (LW_clr hl b0 b1) (if_neg (by omega)) (if_neg (by omega)) ⟨u1, q1, r1, ?_, fun k hk => ?_⟩ ?_ ⟨q, g41, hR⟩ hqw hw
    · exact zQ_t (zQ_t (zQ_m q2 (by decide)) (zQ_U (by decide))) (zQ_U (by decide))
    · rw [zU_k hk, zU_row (by decide), f41]
    · rw [zU_row (by decide), zU_row (by decide)]; exact f4
/-- a land laid from a kept row -/
def frm (L M : Int → Int) : Int → Int := fun c => if 0 ≤ c ∧ c < 499 then M c else L c
theorem frm_LW {L M : Int → Int} (h : LW M) : LW (frm L M) := LW_congr (fun j j0 j1 => if_pos ⟨j0, j1⟩) h
theorem LW_dim {L : Int → Int} (h : LW L) : (2 ≤ L 0 ∧ L 0 ≤ 9 ∧ 2 ≤ L 1 ∧ L 1 ≤ 9) ∨ (L 0 = 0 ∧ L 1 = 0) := by
  rcases h with h | h
  · exact Or.inl h.1.1
  · exact Or.inr ⟨h.1, h.2.1⟩
theorem pr_undo {σ : zS} (hi : INV σ) : q_A_undo (fun x u => q_M_undo (fun v w => Agr x v w) u) σ := by
  obtain ⟨L, hc, hm, hl, t1, t2, t3, t4, t5⟩ := id hi
  obtain ⟨p1, p2, p3, p4⟩ := id t2
  unfold q_A_undo q_R_undo q_P_size
  refine ⟨fun nz => ?_, fun z => ⟨rfl, ?_⟩⟩
  · unfold q_P_takeBack
    refine ⟨fun d => by omega, fun d => ⟨zRi (by omega) (by omega), fun s5 e5 => ?_⟩⟩
    have f91 : s5 9 1 = σ 9 1 := by rw [e5, zU_k (by decide)]
    have f92 : s5 9 2 = σ 9 2 - 1 := by rw [e5, zU_s]
    unfold q_P_room
    rw [zAnd_7, f91, f92]
    refine ⟨zRi (by omega) (by omega), ?_⟩
    unfold q_L_take_10
    refine ⟨by omega, by omega, fun s3 e3 => ?_⟩
    have old := p4 (σ 9 2 - 1) (by omega) (by omega)
    have f4 : s3 4 = frm L (fun j => σ 43 (499 * (σ 9 2 - 1) + j)) := by
      funext c
      rw [e3, zW_s, e5, zU_row (by decide), zU_row (by decide), hc.1]
      unfold zCpy frm
      by_cases e : 0 ≤ c ∧ c < 499
      · rw [if_pos (by omega), if_pos e, show c - 0 = c by omega]
        exact old.1 c e.1 e.2
      · rw [if_neg (by omega), if_neg e]
    have hl' := frm_LW (L := L) old.2
    refine t_L_layOut f4 (LW_dim hl') (fun τ q hcτ => ?_)
    have all : ∀ o, o ∉ [4, 5, 9] → τ o = σ o := fun o ho => by
      simp only [List.mem_cons, List.not_mem_nil, or_false, not_or] at ho
      rw [q o (by simp [ho]), e3, zW_o ho.1, e5, zU_row ho.2.2]
    have g9 : τ 9 2 = σ 9 2 - 1 := by rw [q 9 (by decide), e3, zW_o (by decide)]; exact f92
    have g91 : τ 9 1 = σ 9 1 := by rw [q 9 (by decide), e3, zW_o (by decide)]; exact f91
    dsimp only
    rw [g9]
    unfold q_M_undo
    have u3 : (zU τ 64 0 (σ 9 2 - 1)) 41 3 = σ 9 2 := by rw [zU_o (by decide), all 41 (by decide)]; exact p1.symm
    refine ⟨fun w => w = 0, fun w hw _ s3' e3' => ?_, ?_⟩
    · subst hw
      have z0 : s3' 41 0 = 0 := by rw [e3', zU_s]
      have z3 : s3' 41 3 = σ 9 2 := by rw [e3', zU_k (by decide)]; exact u3
      rw [z0, z3]
      refine ⟨fun _ => ⟨zRi (by omega) (by omega), fun s8 e8 => ?_⟩, fun x => absurd x (by decide)⟩
      have y3 : s8 41 3 = σ 9 2 - 1 := by rw [e8, zU_s]
      have y42 : s8 42 = L := by rw [e8, zU_row (by decide), e3', zU_row (by decide), zU_row (by decide), all 42 (by decide)]; exact hm.1
      have y43 : s8 43 = σ 43 := by rw [e8, zU_row (by decide), e3', zU_row (by decide), zU_row (by decide), all 43 (by decide)]
      refine ⟨fun y s => zQ [42] s8 s ∧ 0 ≤ y ∧ y ≤ 499 ∧ ∀ c, s 42 c = if 0 ≤ c ∧ c < y then σ 43 (499 * (σ 9 2 - 1) + c) else L c, fun y _ => (499 - y).toNat, ⟨zQ_r _ _, by decide, by decide, fun c => by rw [if_neg (by omega), y42]⟩, ?_⟩
      rintro y s ⟨hq, y0, y1, hI⟩ -
      have x3 : s 41 3 = σ 9 2 - 1 := by rw [hq 41 (by decide)]; exact y3
      rw [x3]
      refine ⟨fun c => ?_, fun c => ⟨by omega, ⟨y0, c⟩, fun s1 e1 => ⟨⟨by rw [e1]; exact zQ_t hq (zQ_U (by decide)), by omega, by omega, fun i => ?_⟩, zRi (by omega) (by omega), by dsimp only; omega⟩⟩⟩
      · have w42 : s 42 = frm L (fun j => σ 43 (499 * (σ 9 2 - 1) + j)) := by
          funext i
          rw [hI i, show y = 499 by omega]
          rfl
        have allw : ∀ o, o ∉ [4, 5, 9, 41, 42, 64] → s o = σ o := fun o ho => by
          simp only [List.mem_cons, List.not_mem_nil, or_false, not_or] at ho
          rw [hq o (by simp [ho]), e8, zU_row (by simp [ho]), e3', zU_row (by simp [ho]), zU_row (by simp [ho]), all o (by simp [ho])]
        have w41 : ∀ k, k ≠ 0 → k ≠ 3 → s 41 k = σ 41 k := fun k k0 k3 => by
          rw [hq 41 (by decide), e8, zU_k k3, e3', zU_k k0, zU_row (by decide), all 41 (by decide)]
        have wc : ∀ o ∈ [4, 5, 9], s o = τ o := fun o ho => by
          have h1 : o ≠ 42 ∧ o ≠ 41 ∧ o ≠ 64 := by revert ho; revert o; decide
          rw [hq o (by simp [h1]), e8, zU_row h1.2.1, e3', zU_row h1.2.1, zU_row h1.2.2]
        refine ⟨?_, fun _ => ?_, ⟨_, ⟨?_, ?_⟩, ⟨w42, fun g g0 g1 => ?_, ?_, ?_⟩, hl', ?_, ?_, ?_, ?_, ?_⟩⟩
        · rw [hq 41 (by decide), e8, zU_k (by decide), e3', zU_s]
        · rw [hq 64 (by decide), e8, zU_o (by decide), e3', zU_o (by decide), zU_s]
        · rw [wc 4 (by decide)]; exact hcτ.1
        · rw [wc 5 (by decide)]; exact hcτ.2
        · rw [allw 47 (by decide), allw 48 (by decide)]; exact hm.2.1 g g0 g1
        · rw [w41 28 (by decide) (by decide)]; exact hm.2.2.1
        · rw [w41 29 (by decide) (by decide)]; exact hm.2.2.2
        · unfold TpO
          rw [allw 1 (by decide), allw 2 (by decide), allw 49 (by decide), w41 11 (by decide) (by decide)]
          exact t1
        · unfold PsO
          rw [wc 9 (by decide), allw 10 (by decide), allw 43 (by decide), x3, g9, g91]
          exact ⟨rfl, by omega, p3, fun i i0 i1 => p4 i i0 (by omega)⟩
        · unfold ImO
          rw [allw 0 (by decide), allw 40 (by decide), allw 44 (by decide), w41 5 (by decide) (by decide)]
          exact t3
        · rw [allw 0 (by decide), w41 14 (by decide) (by decide)]; exact t4
        · unfold SaO
          rw [allw 45 (by decide), allw 46 (by decide)]
          exact t5
      · have x43 : s 43 = σ 43 := by rw [hq 43 (by decide)]; exact y43
        rw [e1, zU_if, hI i, x43]
        by_cases e : i = y
        · rw [if_pos e, if_pos (by omega), e]
        · rw [if_neg e]
          by_cases e2 : 0 ≤ i ∧ i < y
          · rw [if_pos e2, if_pos (by omega)]
          · rw [if_neg e2, if_neg (by omega)]
    · rw [u3]
      exact ⟨fun _ => rfl, fun x => absurd x nz⟩
  · unfold q_M_undo
    refine ⟨fun w => w = 1, fun w hw _ s3' e3' => ?_, ?_⟩
    · subst hw
      have z0 : s3' 41 0 = 1 := by rw [e3', zU_s]
      rw [z0]
      refine ⟨fun x => absurd x (by decide), fun _ => ?_⟩
      rw [e3']
      exact Agr_x hi (by decide)
    · rw [← p1]
      exact ⟨fun x => absurd z x, fun _ => rfl⟩
