/-! ===== build ===== -/
theorem chg2 {L L' : Int → Int} {σ u1 u2 w0 w2 : zS} (hi : INV σ) (hc : CC L σ) (hm : MM L (-1) (-1) σ) (hl : LW L) (hl' : LW L') (e0 : L' 0 = L 0) (e1 : L' 1 = L 1) (q1 : zQ [9, 10] σ u1) (r1 : RemC L σ u1) (q2 : zQ [4, 41, 51, 52, 54, 55, 62, 64] u1 u2) (f2 : ∀ k ∈ fcor, u2 41 k = σ 41 k) (h4 : u2 4 = L') (q3 : zQ [41, 43] u2 w0) (f3 : ∀ k, k ≠ 3 → w0 41 k = u2 41 k) (r3 : RemM L u2 w0) (hq : zQ [42, 56] w0 w2) (h42 : w2 42 = L') : INV w2 := by
  obtain ⟨L0, hc0, hm0, hl0, t1, t2, t3, t4, t5⟩ := id hi
  have all : ∀ o, o ∉ [4, 9, 10, 41, 42, 43, 51, 52, 54, 55, 56, 62, 64] → w2 o = σ o := fun o ho => by
    simp only [List.mem_cons, List.not_mem_nil, or_false, not_or] at ho
    rw [hq o (by simp [ho]), q3 o (by simp [ho]), q2 o (by simp [ho]), q1 o (by simp [ho])]
  refine INV_chg hc hm t1 t3 t4 t5 ?_ h42 e0 e1 hl' (all 5 (by decide)) (fun o ho => all o (by revert ho; revert o; decide)) (fun k hk => ?_) ?_
  · rw [hq 4 (by decide), q3 4 (by decide)]; exact h4
  · rw [hq 41 (by decide), f3 k (by revert hk; revert k; decide), f2 k (by revert hk; revert k; decide)]
  · refine Ps_rem (σ := σ) (u := u2) hl t2 ⟨?_, ?_, ?_⟩ (f2 3 (by decide)) ?_ ⟨?_, ?_⟩ ?_ ?_
    · rw [q2 9 (by decide)]; exact r1.1
    · rw [q2 9 (by decide)]; exact r1.2.1
    · rw [q2 10 (by decide)]; exact r1.2.2
    · rw [q2 43 (by decide), q1 43 (by decide)]
    · rw [hq 41 (by decide), hq 43 (by decide)]; exact r3.1
    · rw [hq 41 (by decide), hq 43 (by decide)]; exact r3.2
    · rw [hq 9 (by decide), q3 9 (by decide)]
    · rw [hq 10 (by decide), q3 10 (by decide)]
def bldL (L : Int → Int) (r n : Int) (P : Int → Int) : Int → Int := fun c => if 176 + 81 * r ≤ c ∧ c < 176 + 81 * r + n then P (c - (176 + 81 * r)) else if c = 175 + 81 * r then n else clr L r c
theorem bldL_lo {L P : Int → Int} {r n j : Int} (r0 : 0 ≤ r) (hj : j < 175) : bldL L r n P j = L j := by
  unfold bldL clr
  rw [if_neg (by omega), if_neg (by omega), if_neg (by omega)]
theorem LW_bld {L P : Int → Int} {r n : Int} (h : LW L) (hL : GW L) (hW : RWs L) (r0 : 0 ≤ r) (r1 : r < 4) (hn : 2 ≤ n ∧ n ≤ 40) (hA : Adj L P n) : LW (bldL L r n P) := by
  have o : ∀ j, j < 175 → bldL L r n P j = L j := fun j hj => bldL_lo r0 hj
  have t := h.tw
  have ip : ∀ p, inP (bldL L r n P) p ↔ inP L p := fun p => by unfold inP; rw [o 0 (by omega), o 1 (by omega)]
  have eb : ∀ p g, bs (bldL L r n P) p g = bs L p g := fun p g => by show bes _ _ _ _ = bes _ _ _ _; rw [o 0 (by omega), o 1 (by omega)]
  refine LW_mk h (o 0 (by omega)) (o 1 (by omega)) ?_ (fun hL q q0 q1 => by rw [o _ (by omega)]; exact hL.2.2.1 q q0 q1) (fun hL q q0 q1 => by rw [o _ (by omega)]; exact hL.2.2.2 q q0 q1) (fun _ hW q q0 q1 => ?_) (fun q q0 q1 z _ => absurd z (by have := hL.1.1; omega))
  · unfold TW at t ⊢
    rw [o 2 (by omega), o 3 (by omega), o 4 (by omega), o 5 (by omega), o 6 (by omega), o 7 (by omega), o 8 (by omega), o 9 (by omega), o 10 (by omega), o 11 (by omega), o 12 (by omega)]
    exact t
  · by_cases e : q = r
    · subst e
      have en : bldL L q n P (175 + 81 * q) = n := by
        unfold bldL
        rw [if_neg (by omega), if_pos rfl]
      have ep : ∀ k, 0 ≤ k → k < n → bldL L q n P (176 + 81 * q + k) = P k := fun k k0 k1 => by
        unfold bldL
        rw [if_pos (by omega)]
        congr 1
        omega
      have eo : ∀ k, 0 ≤ k → k < 40 → bldL L q n P (216 + 81 * q + k) = 0 := fun k k0 k1 => by
        unfold bldL clr
        rw [if_neg (by omega), if_neg (by omega), if_pos (by omega)]
      refine Or.inr ⟨by rw [en]; exact hn.1, by rw [en]; exact hn.2, fun k k0 k1 => ?_, fun k k0 k1 => ?_⟩
      · rw [en] at k1
        rw [ep k k0 k1, eo k k0 (by omega), ip]
        refine ⟨?_, by omega, by omega⟩
        by_cases z : k + 1 < n
        · exact (hA k k0 z).1
        · have := (hA (k - 1) (by omega) (by omega)).2.1
          rw [show k - 1 + 1 = k by omega] at this
          exact this
      · rw [en] at k1
        have a := hA k k0 k1
        exact ⟨hg L P k, a.2.2.1.1, a.2.2.1.2, by rw [ep k k0 (by omega), ep (k + 1) (by omega) k1, eb]; exact a.2.2.2⟩
    · exact RW_congr q0 q1 (o 0 (by omega)) (o 1 (by omega)) (fun j j0 j1 => by
        unfold bldL clr
        rw [if_neg (by omega), if_neg (by omega), if_neg (by omega)]) (hW q q0 q1)
theorem mtm_congr {L M C D P : Int → Int} {k : Nat} (e : ∀ j, j < 175 → M j = L j) (hp : 0 ≤ P k ∧ P k < 81) (hb : 0 ≤ bs L (P k) (hg L P k) ∧ bs L (P k) (hg L P k) < 81) : mtm M D 0 P k = mtm L C 0 P k := by
  have eh : ∀ j, hg M P j = hg L P j := fun j => by unfold hg; rw [e 0 (by omega)]
  have eb : ∀ p g, bs M p g = bs L p g := fun p g => by show bes _ _ _ _ = bes _ _ _ _; rw [e 0 (by omega), e 1 (by omega)]
  unfold mtm
  rw [eh, eh, kst0, kst0]
  have ec : cst M (P k) (hg L P k) = cst L (P k) (hg L P k) := by
    unfold cst dif
    rw [eb, e 5 (by omega), e (13 + P k) (by omega), e (13 + bs L (P k) (hg L P k)) (by omega)]
  have ek : ∀ a b, kbn M 0 a b = kbn L 0 a b := fun a b => by
    unfold kbn bcs
    rw [e 3 (by omega), e 6 (by omega), e 7 (by omega)]
  rw [ec, ek]
theorem bldL_congr {L P Q : Int → Int} {r n : Int} (e : ∀ k, 0 ≤ k → k < n → P k = Q k) : bldL L r n P = bldL L r n Q := by
  funext c
  unfold bldL
  by_cases z : 176 + 81 * r ≤ c ∧ c < 176 + 81 * r + n
  · rw [if_pos z, if_pos z, e _ (by omega) (by omega)]
  · rw [if_neg z, if_neg z]
theorem t_L_setRoad {K : zS → Prop} {σ : zS} {L : Int → Int} {r n : Int} (h4 : σ 4 = L) (r0 : 0 ≤ r) (r1 : r < 4) (hn : 0 ≤ n ∧ n ≤ 40) (h : ∀ τ, zQ [4] σ τ → τ 4 = bldL L r n (σ 25) → K τ) : q_L_setRoad r n K σ := by
  unfold q_L_setRoad q_L_clearRoad q_J_fill4
  intro x1 e1
  rw [Int.mul_comm] at e1
  refine ⟨zRi (by omega) (by omega), zRi (by omega) (by omega), ⟨by omega, by omega, by show x1 + 81 ≤ 499; omega⟩, fun x2 e2 => ?_⟩
  rw [Int.mul_comm] at e2
  refine ⟨by omega, fun s4 e4 => ⟨by omega, hn.1, by omega, by omega, fun s9 e9 => h s9 ?_ ?_⟩⟩
  · rw [e9, e4]; exact zQ_t (zQ_F (by decide)) (zQ_t (zQ_U (by decide)) (zQ_W (by decide)))
  · rw [e9, zW_s]
    have s25 : s4 25 = σ 25 := by rw [e4, zU_row (by decide), zFill_o (by decide)]
    have s44 : ∀ c, s4 4 c = if c = 175 + 81 * r then n else clr L r c := fun c => by
      rw [e4, zU_if, e2]
      by_cases z : c = 175 + 81 * r
      · rw [if_pos z, if_pos z]
      · rw [if_neg z, if_neg z]
        unfold zFill clr
        rw [zW_s, h4, e1, show 175 + 81 * r + 81 = 256 + 81 * r by omega]
    funext c
    unfold zCpy bldL
    rw [s25, s44, e2]
    by_cases z : 176 + 81 * r ≤ c ∧ c < 176 + 81 * r + n
    · rw [if_pos z, if_pos (by omega)]
      congr 1
      omega
    · rw [if_neg z, if_neg (by omega)]
theorem pr_build {σ : zS} {r a b : Int} (hi : INV σ) : q_A_build r a b (fun x u => q_M_build r a b (fun v w => Agr x v w) u) σ := by
  obtain ⟨L, hc, hm, hl, t1, t2, t3, t4, t5⟩ := id hi
  have hn := hl.n
  have hu3 : 0 ≤ σ 41 3 ∧ σ 41 3 ≤ 8 := by have := t2.1; have := t2.2.1; omega
  -- the reference
  have ref : ∀ (x : Int) (u : zS), MM L (-1) (-1) u → (0 ≤ u 41 3 ∧ u 41 3 ≤ 8) → (¬ ((0 ≤ r ∧ r < 4) ∧ inP L a ∧ inP L b) → Agr x 0 (zU u 41 0 1)) → (((0 ≤ r ∧ r < 4) ∧ inP L a ∧ inP L b) → a = b → Agr x 0 (zU u 41 0 2)) → (((0 ≤ r ∧ r < 4) ∧ inP L a ∧ inP L b) → a ≠ b → ∀ τ, zQ [41, 51, 52, 54, 62] (zU u 41 0 0) τ → (∀ k, k ≠ 20 → τ 41 k = (zU u 41 0 0) 41 k) → ((∀ P, WayR L (-1) (-1) 0 a b 0 P) ∧ WayV L (-1) (-1) 0 a b (-1) → Agr x 0 (zU τ 41 0 3)) ∧ (WayR L (-1) (-1) 0 a b (τ 41 20) (τ 54) → (1 ≤ τ 41 20 ∧ τ 41 20 ≤ 649) → (∃ Cn cv, (∀ p h g, inP L p → Cn p h g → bs L p g ≠ -1) ∧ WayP L Cn cv a b (τ 41 20 - 1) (τ 54)) → WayV L (-1) (-1) 0 a b (smI (mtm L (catL L) 0 (τ 54)) (τ 41 20 - 1).toNat) → (40 < τ 41 20 → Agr x 0 (zU τ 41 0 3)) ∧ (τ 41 20 ≤ 40 → ∀ w0 w2, zQ [41, 43] (zU τ 41 0 0) w0 → (∀ k, k ≠ 3 → w0 41 k = (zU τ 41 0 0) 41 k) → RemM L (zU τ 41 0 0) w0 → zQ [42] w0 w2 → w2 42 = bldL L r (τ 41 20) (τ 54) → Agr x (smI (mtm L (catL L) 0 (τ 54)) (τ 41 20 - 1).toNat) w2))) → q_M_build r a b (fun v w => Agr x v w) u := by
    intro x u hmu hu a1 a2 a0
    unfold q_M_build
    -- behind the first guard
    have J : ∀ (w3 : Int) (s4 : zS), (s4 = u ∧ ((w3 = 1 ∧ ¬ ((0 ≤ r ∧ r < 4) ∧ inP L a ∧ inP L b)) ∨ (((0 ≤ r ∧ r < 4) ∧ inP L a ∧ inP L b) ∧ ((w3 = 2 ∧ a = b) ∨ (w3 = 0 ∧ a ≠ b))))) → zR w3 → ∀ σ5 : zS, σ5 = zU s4 41 0 w3 → ((σ5 41 0) ≤ 0 → q_M_isWay a b 0 (fun r9 σ8 => ∃ J55 : Int → Prop, (∀ (w10 : Int), J55 w10 → zR w10 → ∀ σ11 : zS, σ11 = zU σ8 41 0 w10 → ((σ11 41 0) ≤ 0 → q_M_remembers (fun σ14 => ∀ x15 : Int, x15 = 175 + (81 * r) → ∃ (I84 : Int → zS → Prop) (μ84 : Int → zS → Nat), (I84 0 σ14) ∧ ∀ (y16 : Int) (σ17 : zS), I84 y16 σ17 → zR y16 → (81 ≤ y16 → (0 ≤ x15 ∧ x15 < 499) ∧ (∀ σ21 : zS, σ21 = zU σ17 42 x15 (σ17 41 20) → ∃ (I122 : Int → zS → Prop) (μ122 : Int → zS → Nat), (I122 0 σ21) ∧ ∀ (y22 : Int) (σ23 : zS), I122 y22 σ23 → zR y22 → ((σ23 41 20) ≤ y22 → q_M_measure 0 (fun r27 σ26 => Agr x r27 σ26) σ23) ∧ (y22 < (σ23 41 20) → (0 ≤ y22 ∧ y22 < 700) ∧ ((0 ≤ (x15 + 1) + y22 ∧ (x15 + 1) + y22 < 499) ∧ (∀ σ31 : zS, σ31 = zU σ23 42 ((x15 + 1) + y22) (σ23 54 y22) → I122 (y22 + 1) σ31 ∧ zR (y22 + 1) ∧ μ122 (y22 + 1) σ31 < μ122 y22 σ23))))) ∧ (y16 < 81 → (0 ≤ x15 + y16 ∧ x15 + y16 < 499) ∧ (∀ σ35 : zS, σ35 = zU σ17 42 (x15 + y16) 0 → I84 (y16 + 1) σ35 ∧ zR (y16 + 1) ∧ μ84 (y16 + 1) σ35 < μ84 y16 σ17))) σ11) ∧ (0 < (σ11 41 0) → Agr x 0 σ11)) ∧ (∃ J54 : Prop, (J54 → J55 3) ∧ ((r9 = 0 → J54) ∧ (r9 ≠ 0 → (40 < (σ8 41 20) → J54) ∧ ((σ8 41 20) ≤ 40 → J55 0))))) σ5) ∧ (0 < (σ5 41 0) → Agr x 0 σ5) := by
      rintro w3 s4 ⟨rfl, hw⟩ - s5 e5
      have z : s5 41 0 = w3 := by rw [e5, zU_s]
      rw [z]
      refine ⟨fun d => ?_, fun d => ?_⟩
      · obtain ⟨hp, hw2⟩ := hw.resolve_left (fun q => by omega)
        obtain ⟨ew, ne⟩ := hw2.resolve_left (fun q => by omega)
        obtain ⟨hL, hW⟩ := hl.gw hp.2.1
        rw [ew] at e5
        have hm5 : MM L (-1) (-1) s5 := by rw [e5]; exact MM_F hmu (by decide)
        have b0 := hp.1.1
        have b1 := hp.1.2
        refine t_M_wayR hm5 hL hW (by decide) hp.2.1 hp.2.2 (fun τ q f41 _ hn2 hway hv hvv => ?_) (fun τ q f41 hv hvv => ?_)
        · rw [e5] at q f41
          obtain ⟨-, h1⟩ := a0 hp ne τ q f41
          obtain ⟨hbig, hok⟩ := h1 hv hn2 hway (hvv ne)
          refine ⟨fun w => (w = 3 ∧ 40 < τ 41 20) ∨ (w = 0 ∧ τ 41 20 ≤ 40), fun w hw _ s11 e11 => ?_, 40 < τ 41 20, fun j => Or.inl ⟨rfl, j⟩, n1a ⟨fun y => y, fun y => Or.inr ⟨rfl, y⟩⟩⟩
          have z11 : s11 41 0 = w := by rw [e11, zU_s]
          rw [z11]
          refine ⟨fun y => ?_, fun y => ?_⟩
          · obtain ⟨ew0, h40⟩ := hw.resolve_left (fun q => by omega)
            rw [ew0] at e11
            have hmτ : MM L (-1) (-1) τ := by
              refine ⟨?_, fun g g0 g1 => ?_, ?_, ?_⟩
              · rw [q 42 (by decide), zU_row (by decide)]; exact hmu.1
              · rw [q 47 (by decide), q 48 (by decide), zU_row (by decide), zU_row (by decide)]; exact hmu.2.1 g g0 g1
              · rw [f41 28 (by decide), zU_k (by decide)]; exact hmu.2.2.1
              · rw [f41 29 (by decide), zU_k (by decide)]; exact hmu.2.2.2
            have hm11 : MM L (-1) (-1) s11 := by rw [e11]; exact MM_F hmτ (by decide)
            refine t_M_remembers (L := L) hm11.1 (by rw [e11, zU_k (by decide), f41 3 (by decide), zU_k (by decide)]; exact hu) (fun w0 qr fr hR x15 e15 => ?_)
            rw [e11] at qr fr hR
            have w42 : w0 42 = L := by rw [qr 42 (by decide), zU_row (by decide)]; exact hmτ.1
            have w20 : w0 41 20 = τ 41 20 := by rw [fr 20 (by decide), zU_k (by decide)]
            have w54 : w0 54 = τ 54 := by rw [qr 54 (by decide), zU_row (by decide)]
            refine ⟨fun y s => zQ [42] w0 s ∧ 0 ≤ y ∧ y ≤ 81 ∧ ∀ c, s 42 c = if 175 + 81 * r ≤ c ∧ c < 175 + 81 * r + y then 0 else L c, fun y _ => (81 - y).toNat, ⟨zQ_r _ _, by decide, by decide, fun c => by rw [if_neg (by omega), w42]⟩, ?_⟩
            rintro y s ⟨hq, y0, y1, hI⟩ -
            refine ⟨fun d2 => ⟨by omega, fun s21 e21 => ?_⟩, fun d2 => ⟨by omega, fun s1 e1 => ⟨⟨by rw [e1]; exact zQ_t hq (zQ_U (by decide)), by omega, by omega, fun c => ?_⟩, zRi (by omega) (by omega), by dsimp only; omega⟩⟩⟩
            · have s20 : s 41 20 = τ 41 20 := by rw [hq 41 (by decide)]; exact w20
              have clq : ∀ c, s21 42 c = if c = 175 + 81 * r then τ 41 20 else clr L r c := fun c => by
                rw [e21, zU_if, e15, s20, hI c]
                by_cases z : c = 175 + 81 * r
                · rw [if_pos z, if_pos z]
                · rw [if_neg z, if_neg z]
                  unfold clr
                  rw [show y = 81 by omega, show 175 + 81 * r + 81 = 256 + 81 * r by omega]
              refine ⟨fun y s => zQ [42] w0 s ∧ 0 ≤ y ∧ y ≤ τ 41 20 ∧ ∀ c, s 42 c = if 176 + 81 * r ≤ c ∧ c < 176 + 81 * r + y then τ 54 (c - (176 + 81 * r)) else if c = 175 + 81 * r then τ 41 20 else clr L r c, fun y _ => (700 - y).toNat, ⟨by rw [e21]; exact zQ_t hq (zQ_U (by decide)), by decide, by omega, fun c => by rw [if_neg (by omega), clq c]⟩, ?_⟩
              rintro y s ⟨hq, y0, y1, hI⟩ -
              have s20 : s 41 20 = τ 41 20 := by rw [hq 41 (by decide)]; exact w20
              have s54 : s 54 = τ 54 := by rw [hq 54 (by decide)]; exact w54
              rw [s20, s54]
              refine ⟨fun d3 => ?_, fun d3 => ⟨by omega, by omega, fun s1 e1 => ⟨⟨by rw [e1]; exact zQ_t hq (zQ_U (by decide)), by omega, by omega, fun c => ?_⟩, zRi (by omega) (by omega), by dsimp only; omega⟩⟩⟩
              · have s42 : s 42 = bldL L r (τ 41 20) (τ 54) := by
                  funext c
                  rw [hI c, show y = τ 41 20 by omega]
                  rfl
                obtain ⟨Cn, cv, hcn, hwp⟩ := hway
                obtain ⟨hA, hin, -⟩ := Way_adj hp.2.1 hcn hwp
                rw [show τ 41 20 - 1 + 1 = τ 41 20 by omega] at hA
                have n2 : 2 ≤ τ 41 20 := by
                  by_cases z : τ 41 20 = 1
                  · exfalso
                    have h1 := hwp.1
                    have h2 := hwp.2.1
                    rw [z] at h2
                    exact ne (h1.symm.trans h2)
                  · omega
                have hl2 := LW_bld (P := τ 54) hl hL hW b0 b1 ⟨n2, h40⟩ hA
                have lo : ∀ j, j < 175 → bldL L r (τ 41 20) (τ 54) j = L j := fun j hj => bldL_lo b0 hj
                have hL2 : GW (bldL L r (τ 41 20) (τ 54)) := by
                  rcases hl2 with z | z
                  · exact z.1
                  · have := z.1
                    rw [lo 0 (by omega)] at this
                    have := hL.1.1
                    omega
                have hms : MM (bldL L r (τ 41 20) (τ 54)) (-1) (-1) s := by
                  refine ⟨s42, fun g g0 g1 => ?_, ?_, ?_⟩
                  · rw [hq 47 (by decide), hq 48 (by decide), qr 47 (by decide), qr 48 (by decide), zU_row (by decide), zU_row (by decide)]; exact hmτ.2.1 g g0 g1
                  · rw [hq 41 (by decide), fr 28 (by decide), zU_k (by decide)]; exact hmτ.2.2.1
                  · rw [hq 41 (by decide), fr 29 (by decide), zU_k (by decide)]; exact hmτ.2.2.2
                have ehg : ∀ j, hg (bldL L r (τ 41 20) (τ 54)) (τ 54) j = hg L (τ 54) j := fun j => by unfold hg; rw [lo 0 (by omega)]
                have ebs : ∀ p g, bs (bldL L r (τ 41 20) (τ 54)) p g = bs L p g := fun p g => by show bes _ _ _ _ = bes _ _ _ _; rw [lo 0 (by omega), lo 1 (by omega)]
                have eip : ∀ p, inP (bldL L r (τ 41 20) (τ 54)) p ↔ inP L p := fun p => by unfold inP; rw [lo 0 (by omega), lo 1 (by omega)]
                refine t_M_measure (C := fun _ => 0) hms hL2 hl2.rb (CB0 _) (fun z => absurd z (by decide)) (by decide) (by rw [s20]; omega) ?_ ?_
                · rw [s54, s20]
                  intro k k0 k1
                  rw [ehg, ebs, eip, eip]
                  exact hA k k0 k1
                · rw [s54, s20]
                  have es : smI (mtm (bldL L r (τ 41 20) (τ 54)) (fun _ => 0) 0 (τ 54)) (τ 41 20 - 1).toNat = smI (mtm L (catL L) 0 (τ 54)) (τ 41 20 - 1).toNat := smI_congr _ (fun k hk => by
                    have ak := hA k (by omega) (by omega)
                    exact mtm_congr lo (ak.1.b hL) (by rw [ak.2.2.2]; exact ak.2.1.b hL))
                  rw [es]
                  exact hok h40 w0 s qr fr hR hq s42
              · rw [e1, zU_if, hI c, e15]
                by_cases z : c = 175 + 81 * r + 1 + y
                · rw [if_pos z, if_pos (by omega)]
                  congr 1
                  omega
                · rw [if_neg z]
                  by_cases z2 : 176 + 81 * r ≤ c ∧ c < 176 + 81 * r + y
                  · rw [if_pos z2, if_pos (by omega)]
                  · rw [if_neg z2, if_neg (show ¬ (176 + 81 * r ≤ c ∧ c < 176 + 81 * r + (y + 1)) by omega)]
            · rw [e1, zU_if, hI c, e15]
              by_cases z : c = 175 + 81 * r + y
              · rw [if_pos z, if_pos (by omega)]
              · rw [if_neg z]
                by_cases z2 : 175 + 81 * r ≤ c ∧ c < 175 + 81 * r + y
                · rw [if_pos z2, if_pos (by omega)]
                · rw [if_neg z2, if_neg (by omega)]
          · obtain ⟨ew3, h40⟩ := hw.resolve_right (fun q => by omega)
            rw [e11, ew3]
            exact hbig h40
        · rw [e5] at q f41
          obtain ⟨h0, -⟩ := a0 hp ne τ q f41
          refine ⟨fun w => w = 3, fun w hw _ s11 e11 => ?_, True, fun _ => rfl, n0a trivial⟩
          subst hw
          have z11 : s11 41 0 = 3 := by rw [e11, zU_s]
          rw [z11]
          refine ⟨fun y => absurd y (by decide), fun _ => ?_⟩
          rw [e11]
          exact h0 ⟨hv, hvv⟩
      · rw [e5]
        rcases hw with ⟨ew, hno⟩ | ⟨hp, ⟨ew, e⟩ | ⟨ew, ne⟩⟩
        · rw [ew]; exact a1 hno
        · rw [ew]; exact a2 hp e
        · omega
    refine t_M_isRoad (fun b0 b1 => ⟨_, J, n1b (t_M_two hmu hn (fun i1 i2 ne => ⟨rfl, Or.inr ⟨⟨⟨b0, b1⟩, i1, i2⟩, Or.inr ⟨rfl, ne⟩⟩⟩) (fun ni => ⟨rfl, Or.inl ⟨rfl, fun z => ni z.2⟩⟩) (fun i1 i2 e => ⟨rfl, Or.inr ⟨⟨⟨b0, b1⟩, i1, i2⟩, Or.inl ⟨rfl, e⟩⟩⟩))⟩) (fun b => ⟨_, J, n0b ⟨rfl, Or.inl ⟨rfl, fun z => b z.1⟩⟩⟩)
  unfold q_A_build q_R_build
  have x1 : ¬ ((0 ≤ r ∧ r < 4) ∧ inP L a ∧ inP L b) → q_M_build r a b (fun v w => Agr 1 v w) σ := fun z => ref 1 σ hm hu3 (fun _ => Agr_x hi (by decide)) (fun y => absurd y z) (fun y => absurd y z)
  refine t_R_needRoad (fun b0 b1 => t_R_needPair hc hn (fun i1 i2 => t_R_needUnlike (fun ne => ?_) (fun e => Or.inr (Or.inl ⟨rfl, ref 2 σ hm hu3 (fun z => absurd ⟨⟨b0, b1⟩, i1, i2⟩ z) (fun _ _ => Agr_x hi (by decide)) (fun _ z => absurd e z)⟩))) (fun ni => Or.inl ⟨rfl, x1 (fun z => ni z.2)⟩)) (fun bb => Or.inl ⟨rfl, x1 (fun z => bb z.1)⟩)
  obtain ⟨hL, hW⟩ := hl.gw i1
  refine t_W_find hc hL hW (by decide) i1 i2 (fun m τf qf hf hsz hin hwk => ?_)
  have frf : FR σ τf := FR_Q qf (by decide) (by decide)
  have hif : INV τf := INV_FR frf hi
  have hcf := FR_CC frf hc
  have hmf := FR_MM frf hm
  have f41 : τf 41 = σ 41 := qf 41 (by decide)
  have all3 : ∀ u, u = τf → (∀ n P, WayR L (-1) (-1) 0 a b n P → (1 ≤ n ∧ n ≤ 649) → WayV L (-1) (-1) 0 a b (smI (mtm L (catL L) 0 P) (n - 1).toNat) → Adj L P n → n ≤ 40 → False) → q_M_build r a b (fun v w => Agr 3 v w) u := by
    rintro u rfl hno
    refine ref 3 u hmf (by rw [f41]; exact hu3) (fun z => absurd ⟨⟨b0, b1⟩, i1, i2⟩ z) (fun _ e => absurd e ne) (fun _ _ τ q g41 => ?_)
    have fr : FR u τ := FR_t (FR_F (by decide)) (FR_Qf q (by decide) (f41_fcor g41))
    have ag : Agr 3 0 (zU τ 41 0 3) := Agr_x (INV_FR fr hif) (by decide)
    refine ⟨fun _ => ag, fun hv hn2 hway hvv => ⟨fun _ => ag, fun h40 => ?_⟩⟩
    exfalso
    obtain ⟨Cn, cv, hcn, hwp⟩ := hway
    obtain ⟨hA, -, -⟩ := Way_adj i1 hcn hwp
    rw [show τ 41 20 - 1 + 1 = τ 41 20 by omega] at hA
    exact hno _ _ hv hn2 hvv hA h40
  have nng : ∀ n P, Adj L P n → 1 ≤ n → 0 ≤ smI (mtm L (catL L) 0 P) (n - 1).toNat := fun n P hA h1 => by
    have := (smI_bd (f := mtm L (catL L) 0 P) (a := 0) (b := 1085) (n - 1).toNat (fun i hi => mtm_b hL (catL_CB hL) hA (by omega))).1
    omega
  refine ⟨fun e => Or.inr (Or.inr ⟨rfl, all3 τf rfl (fun n P hv hn2 hvv hA _ => ?_)⟩), fun e => ?_⟩
  · have := val_match hL i1 i2 hf.2.1 hf.2.2.2.1 hf.2.2.2.2 hvv
    have := nng n P hA hn2.1
    omega
  · unfold q_W_pathSize q_W_path
    refine ⟨fun h40 => ?_, fun h40 => Or.inr (Or.inr ⟨rfl, all3 τf rfl (fun n P hv hn2 hvv hA h => ?_)⟩)⟩
    · unfold q_R_remember
      refine t_P_remember hcf.1 (by rw [qf 9 (by decide)]; exact t2.2.1) (by rw [qf 9 (by decide)]; exact t2.2.2.1) (fun u1 q1 r1 => ?_)
      have u15 : u1 15 = τf 15 := q1 15 (by decide)
      dsimp only
      rw [u15]
      refine t_L_setRoad (L := L) (by rw [q1 4 (by decide)]; exact hcf.1) b0 b1 ⟨hsz.1, h40⟩ (fun u2 q2 f4 => ?_)
      rw [q1 25 (by decide)] at f4
      have hmu : MM L (-1) (-1) (zU u2 64 0 (if m = 1000000000 then -1 else m / 1024)) := MM_U (MM_Q (MM_Q hmf q1 (by decide)) q2 (by decide)) (by decide)
      have g41 : u2 41 = σ 41 := by rw [q2 41 (by decide), q1 41 (by decide), f41]
      refine ref 0 _ hmu (by rw [zU_row (by decide), g41]; exact hu3) (fun z => absurd ⟨⟨b0, b1⟩, i1, i2⟩ z) (fun _ e => absurd e ne) (fun _ _ τ q h41 => ⟨fun hno => ?_, fun hv hn2 hway hvv => ?_⟩)
      · exact absurd (val_match hL i1 i2 hf.2.1 hf.2.2.2.1 hf.2.2.2.2 hno.2) e
      · have pm := path_match hL i1 i2 ne hf.2.1 hwk hv
        have ve := val_match hL i1 i2 hf.2.1 hf.2.2.2.1 hf.2.2.2.2 hvv
        refine ⟨fun h => by omega, fun h w0 w2 qr fr hR hq2 h42 => ⟨?_, fun _ => ?_, ?_⟩⟩
        · rw [hq2 41 (by decide), fr 0 (by decide), zU_s]
        · rw [hq2 64 (by decide), qr 64 (by decide), zU_o (by decide), q 64 (by decide), zU_o (by decide), zU_s]
          exact ve
        · obtain ⟨Cn, cv, hcn, hwp⟩ := hway
          obtain ⟨hA, -, -⟩ := Way_adj i1 hcn hwp
          rw [show τ 41 20 - 1 + 1 = τ 41 20 by omega] at hA
          have n2 : 2 ≤ τ 41 20 := by
            by_cases z : τ 41 20 = 1
            · exfalso
              have h1 := hwp.1
              have h2 := hwp.2.1
              rw [z] at h2
              exact ne (h1.symm.trans h2)
            · omega
          refine chg2 (L' := bldL L r (τ 41 20) (τ 54)) hif hcf hmf hl (LW_bld hl hL hW b0 b1 ⟨n2, h⟩ hA) (bldL_lo b0 (by omega)) (bldL_lo b0 (by omega)) q1 r1 ?_ (fun k hk => ?_) ?_ qr fr hR (zQ_m hq2 (by decide)) h42
          · exact zQ_t (zQ_t (zQ_t (zQ_t (zQ_m q2 (by decide)) (zQ_U (by decide))) (zQ_U (by decide))) (zQ_m q (by decide))) (zQ_U (by decide))
          · have hk0 : k ≠ 0 := by revert hk; revert k; decide
            rw [zU_k hk0, f41_fcor h41 k hk, zU_k hk0, zU_row (by decide), g41, f41]
          · rw [zU_row (by decide), q 4 (by decide), zU_row (by decide), zU_row (by decide), f4, pm.1]
            exact bldL_congr pm.2
    · have pm := path_match hL i1 i2 ne hf.2.1 hwk hv
      omega
