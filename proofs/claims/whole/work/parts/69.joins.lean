/-! ===== joins ===== -/
noncomputable def jT (L : Int → Int) (p r k : Int) : Int := Co0 L p (L (176 + 81 * r + k))
def JnV (L : Int → Int) (p r what v : Int) : Prop := (v = -1 ∧ ∀ q, 0 ≤ q → q < L (175 + 81 * r) → jT L p r q = 1000000000) ∨ ∃ w, IsMn (jT L p r) (L (175 + 81 * r)) w ∧ v = if what = 0 then L (176 + 81 * r + w) else jT L p r w
theorem JnV_uniq {L : Int → Int} {p r what v s : Int} (hn : 0 < L (175 + 81 * r)) (hr : JnV L p r what v) (hs : JnV L p r what s) : v = s := by
  rcases hr with ⟨a, b⟩ | ⟨w, hw, ew⟩
  · rcases hs with ⟨c, d⟩ | ⟨w, hw, ew⟩
    · omega
    · have := b w hw.1.1 hw.1.2
      have := hw.2.1
      omega
  · rcases hs with ⟨c, d⟩ | ⟨w', hw', ew'⟩
    · have := d w hw.1.1 hw.1.2
      have := hw.2.1
      omega
    · rw [ew, ew', IsMn_uniq hw hw']
theorem pr_joins {σ : zS} {p r d : Int} (hi : INV σ) : q_A_joins p r d (fun x u => q_M_joins p r d (fun v w => Agr x v w) u) σ := by
  obtain ⟨L, hc, hm, hl, -⟩ := id hi
  have hn := hl.n
  have ref : ∀ (x : Int) (u : zS), FR σ u → (¬ (inP L p ∧ (0 ≤ r ∧ r < 4)) → Agr x 0 (zU u 41 0 1)) → ((inP L p ∧ (0 ≤ r ∧ r < 4)) → ¬ (0 ≤ d ∧ d ≤ 1) → Agr x 0 (zU u 41 0 2)) → ((inP L p ∧ (0 ≤ r ∧ r < 4)) → (0 ≤ d ∧ d ≤ 1) → L (175 + 81 * r) = 0 → Agr x 0 (zU u 41 0 3)) → ((inP L p ∧ (0 ≤ r ∧ r < 4)) → (0 ≤ d ∧ d ≤ 1) → L (175 + 81 * r) ≠ 0 → ∀ v τ, zQ [51] (zU u 41 0 0) τ → JnV L p r d v → Agr x v τ) → q_M_joins p r d (fun v w => Agr x v w) u := by
    intro x u fr a1 a2 a3 a0
    have hmu := FR_MM fr hm
    have guard := gd3 (σ := u) (K := fun s => Agr x 0 s) (c1 := ¬ (inP L p ∧ (0 ≤ r ∧ r < 4))) (c2 := ¬ (0 ≤ d ∧ d ≤ 1)) (c3 := L (175 + 81 * r) = 0) (body := fun σ5 => q_M_goesFrom p (fun σ8 => ∃ (I73 : Int → Int → Int → zS → Prop) (μ73 : Int → Int → Int → zS → Nat), (I73 1000000000 (-1) 0 σ8) ∧ ∀ (y9 y10 y11 : Int) (σ12 : zS), I73 y9 y10 y11 σ12 → zR y9 → zR y10 → zR y11 → q_M_many r (fun r14 σ13 => (r14 ≤ y11 → (y10 ≠ (-1) → (d ≠ 0 → Agr x y9 σ13) ∧ (d = 0 → Agr x y10 σ13)) ∧ (y10 = (-1) → Agr x (-1) σ13)) ∧ (y11 < r14 → q_M_placeAt r y11 (fun r19 σ18 => ∃ J108 : Int → zS → Prop, (∀ (w20 : Int) (σ21 : zS), J108 w20 σ21 → zR w20 → (w20 < y9 → I73 w20 r19 (y11 + 1) σ21 ∧ zR (y11 + 1) ∧ μ73 w20 r19 (y11 + 1) σ21 < μ73 y9 y10 y11 σ12) ∧ (y9 ≤ w20 → I73 y9 y10 (y11 + 1) σ21 ∧ zR (y11 + 1) ∧ μ73 y9 y10 (y11 + 1) σ21 < μ73 y9 y10 y11 σ12)) ∧ ((r19 ≠ p → q_M_costAt r19 (fun r29 σ28 => J108 r29 σ28) σ18) ∧ (r19 = p → J108 0 σ18))) σ13)) σ12) σ5) a1 (fun a b => a2 (Classical.not_not.mp a) b) (fun a b c => a3 (Classical.not_not.mp a) (Classical.not_not.mp b) c) (fun a b c => ?_)
    · unfold q_M_joins
      refine t_M_isPlace hmu hn (fun i1 => ⟨fun w s => s = u ∧ GdP (¬ (inP L p ∧ (0 ≤ r ∧ r < 4))) (¬ (0 ≤ d ∧ d ≤ 1)) (L (175 + 81 * r) = 0) w, fun w s4 hj _ => guard w s4 hj, fun s => s = u ∧ ¬ (inP L p ∧ (0 ≤ r ∧ r < 4)), fun s hs => ⟨hs.1, Or.inl ⟨rfl, hs.2⟩⟩, n1a (t_M_isRoad (fun b0 b1 => n1b (t_M_isIn (fun x y => n1b (t_M_many hmu ⟨b0, b1⟩ ?_)) (fun x => n0b ?_))) (fun b => n0b ⟨rfl, fun x => b x.2⟩))⟩) (fun i1 => ⟨fun w s => s = u ∧ GdP (¬ (inP L p ∧ (0 ≤ r ∧ r < 4))) (¬ (0 ≤ d ∧ d ≤ 1)) (L (175 + 81 * r) = 0) w, fun w s4 hj _ => guard w s4 hj, fun s => s = u ∧ ¬ (inP L p ∧ (0 ≤ r ∧ r < 4)), fun s hs => ⟨hs.1, Or.inl ⟨rfl, hs.2⟩⟩, n0a ⟨rfl, fun x => i1 x.1⟩⟩)
      · have g1 : ¬ ¬ (inP L p ∧ (0 ≤ r ∧ r < 4)) := fun z => z ⟨i1, b0, b1⟩
        have g2 : ¬ ¬ (0 ≤ d ∧ d ≤ 1) := fun z => z ⟨x, y⟩
        exact ⟨fun e => ⟨rfl, Or.inr ⟨g1, Or.inr ⟨g2, Or.inr ⟨rfl, e⟩⟩⟩⟩, fun e => ⟨rfl, Or.inr ⟨g1, Or.inr ⟨g2, Or.inl ⟨rfl, e⟩⟩⟩⟩⟩
      · exact ⟨rfl, Or.inr ⟨fun z => z ⟨i1, b0, b1⟩, Or.inl ⟨rfl, x⟩⟩⟩
    · have hp := Classical.not_not.mp a
      have hd := Classical.not_not.mp b
      obtain ⟨hL, hW⟩ := hl.gw hp.1
      have hm5 : MM L (-1) (-1) (zU u 41 0 0) := MM_F hmu (by decide)
      have hRW := (hW r hp.2.1 hp.2.2).resolve_left c
      refine t_M_goesFrom hm5 hL hW.rb hp.1 (fun τ q hb hLab => ?_)
      have hmt := MM_Q hm5 q (by decide)
      have hS : GfP L (-1) (-1) p τ := ⟨hb, hLab⟩
      refine ⟨fun best found k s => s = τ ∧ 0 ≤ k ∧ k ≤ L (175 + 81 * r) ∧ ((found = -1 ∧ best = 1000000000 ∧ ∀ q, 0 ≤ q → q < k → jT L p r q = 1000000000) ∨ ∃ w, IsMn (jT L p r) k w ∧ found = L (176 + 81 * r + w) ∧ best = jT L p r w), fun _ _ k _ => (40 - k).toNat, ⟨rfl, by decide, by omega, Or.inl ⟨rfl, rfl, fun q q0 q1 => by omega⟩⟩, ?_⟩
      rintro best found k s ⟨rfl, k0, k1, hI⟩ - - -
      have inf : ∀ w, 0 ≤ w → w < L (175 + 81 * r) → inP L (L (176 + 81 * r + w)) := fun w w0 w1 => (hRW.2.2.1 w w0 w1).1
      refine t_M_many hmt hp.2 ⟨fun e => ⟨fun ne => ?_, fun e1 => a0 hp hd c _ s q (Or.inl ⟨rfl, ?_⟩)⟩, fun e => t_M_placeAt hmt hp.2 ⟨k0, by omega⟩ ?_⟩
      · obtain ⟨w, hw, e1, e2⟩ := hI.resolve_left (fun z => ne z.1)
        rw [show k = L (175 + 81 * r) by omega] at hw
        exact ⟨fun z => a0 hp hd c _ s q (Or.inr ⟨w, hw, by rw [if_neg z, e2]⟩), fun z => a0 hp hd c _ s q (Or.inr ⟨w, hw, by rw [if_pos z, e1]⟩)⟩
      · rcases hI with z | ⟨w, hw, e2, -⟩
        · intro j j0 j1
          exact z.2.2 j j0 (by omega)
        · have := inf w hw.1.1 (by have := hw.1.2; omega)
          exact absurd (e2.symm.trans e1) this.ne
      · have ipk := inf k k0 e
        refine ⟨fun w t => t = s ∧ w = jT L p r k ∧ 0 ≤ w, fun w t hw _ => ?_, fun ne => t_M_costOf hL ipk hS (fun z => ⟨rfl, by unfold jT Co0; rw [if_neg ne], z.1⟩), fun e1 => ⟨rfl, by unfold jT Co0; rw [if_pos e1], by decide⟩⟩
        obtain ⟨rfl, hw1, hw0⟩ := hw
        refine ⟨fun lt => ⟨⟨rfl, by omega, by omega, Or.inr ⟨k, ?_, rfl, hw1⟩⟩, zRi (by omega) (by omega), by dsimp only; omega⟩, fun ge => ⟨⟨rfl, by omega, by omega, ?_⟩, zRi (by omega) (by omega), by dsimp only; omega⟩⟩
        · rcases hI with ⟨z1, z2, z3⟩ | ⟨w', hw', z1, z2⟩
          · refine ⟨⟨k0, by omega⟩, by omega, fun j j0 j1 => ?_, fun j j0 j1 => ?_⟩
            · by_cases ej : j = k
              · rw [ej]; exact Int.le_refl _
              · rw [z3 j j0 (by omega)]; omega
            · rw [z3 j j0 j1]; omega
          · have m2 := hw'.2.1
            refine ⟨⟨k0, by omega⟩, by omega, fun j j0 j1 => ?_, fun j j0 j1 => ?_⟩
            · by_cases ej : j = k
              · rw [ej]; exact Int.le_refl _
              · have := hw'.2.2.1 j j0 (by omega)
                omega
            · have := hw'.2.2.1 j j0 j1
              omega
        · rcases hI with ⟨z1, z2, z3⟩ | ⟨w', hw', z1, z2⟩
          · by_cases eF : jT L p r k = 1000000000
            · refine Or.inl ⟨z1, z2, fun j j0 j1 => ?_⟩
              by_cases ej : j = k
              · rw [ej]; exact eF
              · exact z3 j j0 (by omega)
            · exfalso
              -- a finite cost is less than the bound
              have hb2 : jT L p r k ≤ 1000000000 := by
                unfold jT Co0
                split
                · decide
                · obtain ⟨m, hm⟩ := ca_ex (d := t 51) (p := L (176 + 81 * r + k)) (fun h h0 h1 => by
                    have ipb := ipk.b hL
                    have := hb (8 * L (176 + 81 * r + k) + h) (by omega) (by omega)
                    exact ⟨this.1, this.2.1⟩)
                  rw [CoF_eq hL ipk ⟨_, hLab, hm⟩]
                  exact hm.2.1
              omega
          · refine Or.inr ⟨w', ⟨⟨hw'.1.1, by have := hw'.1.2; omega⟩, hw'.2.1, fun j j0 j1 => ?_, hw'.2.2.2⟩, z1, z2⟩
            by_cases ej : j = k
            · rw [ej]; omega
            · exact hw'.2.2.1 j j0 (by omega)
  unfold q_A_joins q_R_joins
  refine t_R_needPlace hc hn (fun i1 => t_R_needRoad (fun b0 b1 => t_R_needAnswer (fun d0 d1 => t_R_needBuilt hc ⟨b0, b1⟩ (fun nz => ?_) (fun z => Or.inr (Or.inr ⟨rfl, ref 3 σ (FR_r σ) (fun w => absurd ⟨i1, b0, b1⟩ w) (fun _ w => absurd ⟨d0, by omega⟩ w) (fun _ _ _ => Agr_x hi (by decide)) (fun _ _ w => absurd z w)⟩))) (fun nk => Or.inr (Or.inl ⟨rfl, ref 2 σ (FR_r σ) (fun w => absurd ⟨i1, b0, b1⟩ w) (fun _ _ => Agr_x hi (by decide)) (fun _ w => absurd ⟨w.1, by omega⟩ nk) (fun _ w => absurd ⟨w.1, by omega⟩ nk)⟩))) (fun b => Or.inl ⟨rfl, ref 1 σ (FR_r σ) (fun _ => Agr_x hi (by decide)) (fun w => absurd w.2 b) (fun w => absurd w.2 b) (fun w => absurd w.2 b)⟩)) (fun ni => Or.inl ⟨rfl, ref 1 σ (FR_r σ) (fun _ => Agr_x hi (by decide)) (fun w => absurd w.1 ni) (fun w => absurd w.1 ni) (fun w => absurd w.1 ni)⟩)
  obtain ⟨hL, hW⟩ := hl.gw i1
  have hRW := (hW r b0 b1).resolve_left nz
  have inf : ∀ w, 0 ≤ w → w < L (175 + 81 * r) → inP L (L (176 + 81 * r + w)) := fun w w0 w1 => (hRW.2.2.1 w w0 w1).1
  unfold q_N_joiningIndex
  refine t_W_searchAll hc hL hW i1 (fun τ q hS => ?_)
  have hcτ := CC_Q hc q (by decide)
  have val : ∀ v, JnV L p r d v → q_M_joins p r d (fun v w => Agr 0 v w) (zU τ 64 0 v) := by
    intro v hv
    have fr : FR σ (zU τ 64 0 v) := FR_t (FR_Q q (by decide) (by decide)) (FR_64 v)
    refine ref 0 _ fr (fun w => absurd ⟨i1, b0, b1⟩ w) (fun _ w => absurd ⟨d0, by omega⟩ w) (fun _ _ w => absurd w nz) (fun _ _ _ v' τ' q' hv' => ?_)
    have e : v' = v := JnV_uniq (by omega) hv' hv
    rw [e]
    exact Agr_0 hi (FR_t (FR_t fr (FR_F (by decide))) (FR_Q q' (by decide) (by decide))) (by rw [q' 41 (by decide), zU_s]) (by rw [q' 64 (by decide), zU_o (by decide), zU_s])
  have cj : ∀ k c, 0 ≤ k → k < L (175 + 81 * r) → c = (if L (176 + 81 * r + k) = p then 0 else if CoF L (-1) (-1) p (L (176 + 81 * r + k)) = 1000000000 then -1 else CoF L (-1) (-1) p (L (176 + 81 * r + k))) → (L (176 + 81 * r + k) ≠ p → 0 ≤ CoF L (-1) (-1) p (L (176 + 81 * r + k)) ∧ (CoF L (-1) (-1) p (L (176 + 81 * r + k)) = 1000000000 ∨ CoF L (-1) (-1) p (L (176 + 81 * r + k)) ≤ 976562)) → (c = -1 ∧ jT L p r k = 1000000000) ∨ (0 ≤ c ∧ c ≤ 976562 ∧ jT L p r k = c) := by
    intro k c k0 k1 ec hb
    unfold jT Co0
    by_cases e : L (176 + 81 * r + k) = p
    · rw [if_pos e] at ec ⊢
      exact Or.inr ⟨by omega, by omega, by omega⟩
    · rw [if_neg e] at ec ⊢
      have b := hb e
      by_cases z : CoF L (-1) (-1) p (L (176 + 81 * r + k)) = 1000000000
      · rw [if_pos z] at ec
        exact Or.inl ⟨ec, z⟩
      · rw [if_neg z] at ec
        exact Or.inr ⟨by omega, by omega, by omega⟩
  refine ⟨fun w l k s => s = τ ∧ 0 ≤ k ∧ k ≤ L (175 + 81 * r) ∧ ((w = -1 ∧ l = 1000000000 ∧ ∀ q, 0 ≤ q → q < k → jT L p r q = 1000000000) ∨ (IsMn (jT L p r) k w ∧ l = jT L p r w)), fun _ _ k _ => (40 - k).toNat, ⟨rfl, by decide, by omega, Or.inl ⟨rfl, rfl, fun q q0 q1 => by omega⟩⟩, ?_⟩
  rintro w l k s ⟨rfl, k0, k1, hI⟩ - - -
  refine t_L_roadSize hcτ ⟨b0, b1⟩ ⟨fun e => ⟨fun ne => ?_, fun e1 => val _ (Or.inl ⟨rfl, ?_⟩)⟩, fun e => t_L_roadPlace hcτ ⟨b0, b1⟩ ⟨k0, by omega⟩ (t_W_costOf hL i1 (inf k k0 e) hS (fun c ec hb => ?_))⟩
  · obtain ⟨hw, e2⟩ := hI.resolve_left (fun z => ne z.1)
    rw [show k = L (175 + 81 * r) by omega] at hw
    refine t_L_roadPlace hcτ ⟨b0, b1⟩ ⟨hw.1.1, by have := hw.1.2; omega⟩ ⟨fun z => t_W_costOf hL i1 (inf w hw.1.1 hw.1.2) hS (fun c ec hb => val _ (Or.inr ⟨w, hw, ?_⟩)), fun z => val _ (Or.inr ⟨w, hw, by rw [if_pos z]⟩)⟩
    rw [if_neg z]
    have := cj w c hw.1.1 hw.1.2 ec hb
    have := hw.2.1
    omega
  · rcases hI with z | ⟨hw, -⟩
    · intro j j0 j1
      exact z.2.2 j j0 (by omega)
    · have := hw.1.1
      omega
  · have hj := cj k c k0 e ec hb
    refine ⟨fun m1 => ⟨⟨rfl, by omega, by omega, ?_⟩, zRi (by omega) (by omega), by dsimp only; omega⟩, fun m1 => ⟨fun ge => ⟨⟨rfl, by omega, by omega, ?_⟩, zRi (by omega) (by omega), by dsimp only; omega⟩, fun lt => ⟨⟨rfl, by omega, by omega, Or.inr ⟨?_, by omega⟩⟩, zRi (by omega) (by omega), by dsimp only; omega⟩⟩⟩
    · rcases hI with ⟨z1, z2, z3⟩ | ⟨hw', z2⟩
      · refine Or.inl ⟨z1, z2, fun j j0 j1 => ?_⟩
        by_cases ej : j = k
        · rw [ej]; omega
        · exact z3 j j0 (by omega)
      · have m2 := hw'.2.1
        refine Or.inr ⟨⟨⟨hw'.1.1, by have := hw'.1.2; omega⟩, hw'.2.1, fun j j0 j1 => ?_, hw'.2.2.2⟩, z2⟩
        by_cases ej : j = k
        · rw [ej]; omega
        · exact hw'.2.2.1 j j0 (by omega)
    · rcases hI with ⟨z1, z2, z3⟩ | ⟨hw', z2⟩
      · omega
      · refine Or.inr ⟨⟨⟨hw'.1.1, by have := hw'.1.2; omega⟩, hw'.2.1, fun j j0 j1 => ?_, hw'.2.2.2⟩, z2⟩
        by_cases ej : j = k
        · rw [ej]; omega
        · exact hw'.2.2.1 j j0 (by omega)
    · rcases hI with ⟨z1, z2, z3⟩ | ⟨hw', z2⟩
      · refine ⟨⟨k0, by omega⟩, by omega, fun j j0 j1 => ?_, fun j j0 j1 => ?_⟩
        · by_cases ej : j = k
          · rw [ej]; exact Int.le_refl _
          · rw [z3 j j0 (by omega)]; omega
        · rw [z3 j j0 j1]; omega
      · refine ⟨⟨k0, by omega⟩, by omega, fun j j0 j1 => ?_, fun j j0 j1 => ?_⟩
        · by_cases ej : j = k
          · rw [ej]; exact Int.le_refl _
          · have := hw'.2.2.1 j j0 (by omega)
            omega
        · have := hw'.2.2.1 j j0 j1
          omega
