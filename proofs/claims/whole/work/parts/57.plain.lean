/-! ===== place, term, at, water ===== -/
theorem Agr_0 {σ τ : zS} {v : Int} (hi : INV σ) (fr : FR σ τ) (e0 : τ 41 0 = 0) (e64 : τ 64 0 = v) : Agr 0 v τ := ⟨e0, fun _ => e64, INV_FR fr hi⟩
theorem FR_64 {σ : zS} (v : Int) : FR σ (zU σ 64 0 v) := FR_U (by decide) (by decide)
theorem FR_640 {σ : zS} (v w : Int) : FR σ (zU (zU σ 64 0 v) 41 0 w) := FR_t (FR_64 v) (FR_F (by decide))
theorem Agr_v {σ : zS} {v : Int} (hi : INV σ) : Agr 0 v (zU (zU σ 64 0 v) 41 0 0) := Agr_0 hi (FR_640 v 0) (zU_s _ _ _ _) (by rw [zU_o (by decide), zU_s])
theorem pr_place {σ : zS} {p c : Int} (hi : INV σ) : q_A_place p c (fun r u => q_M_place p c (fun v w => Agr r v w) u) σ := by
  obtain ⟨L, hc, hm, hl, -⟩ := id hi
  have hn := hl.n
  -- the reference, from a state like this one
  have ref : ∀ (r : Int) (u : zS), FR σ u → (¬ inP L p → Agr r 0 (zU u 41 0 1)) → (inP L p → ¬ (0 ≤ c ∧ c ≤ 3) → Agr r 0 (zU u 41 0 2)) → (inP L p → (0 ≤ c ∧ c ≤ 3) → ∀ v, ((c = 0 → v = L (13 + p)) ∧ (c = 1 → v = L (94 + p)) ∧ (c = 2 → v = cif (Flt L p) 1 0) ∧ (c = 3 → v = bts (Sty L (-1) (-1) p) 8)) → Agr r v (zU u 41 0 0)) → q_M_place p c (fun v w => Agr r v w) u := by
    intro r u fr a1 a2 a0
    have hmu := FR_MM fr hm
    have guard := gd3 (σ := u) (K := fun s => Agr r 0 s) (c1 := ¬ inP L p) (c2 := ¬ (0 ≤ c ∧ c ≤ 3)) (c3 := False) (body := fun σ5 => (c = 0 → (0 ≤ 13 + p ∧ 13 + p < 499) ∧ (Agr r (σ5 42 (13 + p)) σ5)) ∧ (c = 1 → (0 ≤ 94 + p ∧ 94 + p < 499) ∧ (Agr r (σ5 42 (94 + p)) σ5)) ∧ (c = 2 → q_M_isFlat p (fun r16 σ15 => (r16 = 0 → Agr r 0 σ15) ∧ (r16 ≠ 0 → Agr r 1 σ15)) σ5) ∧ (c ≠ 0 ∧ c ≠ 1 ∧ c ≠ 2 → ∃ (I107 : Int → Int → zS → Prop) (μ107 : Int → Int → zS → Nat), (I107 0 0 σ5) ∧ ∀ (y18 y19 : Int) (σ20 : zS), I107 y18 y19 σ20 → zR y18 → zR y19 → (8 ≤ y19 → Agr r y18 σ20) ∧ (y19 < 8 → q_M_canStep p y19 (fun r23 σ22 => (r23 = 0 → ∀ x25 : Int, x25 = zOr y18 0 → I107 x25 (y19 + 1) σ22 ∧ zR (y19 + 1) ∧ μ107 x25 (y19 + 1) σ22 < μ107 y18 y19 σ20) ∧ (r23 ≠ 0 → ∀ x28 : Int, x28 = zOr y18 (zShl 1 y19) → I107 x28 (y19 + 1) σ22 ∧ zR (y19 + 1) ∧ μ107 x28 (y19 + 1) σ22 < μ107 y18 y19 σ20)) σ20))) a1 (fun x y => a2 (Classical.not_not.mp x) y) (fun _ _ x => x.elim) (fun x y _ => ?_)
    · unfold q_M_place
      refine t_M_isPlace hmu hn (fun i => ⟨fun w s => s = u ∧ GdP (¬ inP L p) (¬ (0 ≤ c ∧ c ≤ 3)) False w, fun w s4 hj _ => guard w s4 hj, n1b (t_M_isIn (fun a b => n1b ⟨rfl, Or.inr ⟨fun x => x i, Or.inr ⟨fun x => x ⟨a, b⟩, Or.inr ⟨rfl, id⟩⟩⟩⟩) (fun a => n0b ⟨rfl, Or.inr ⟨fun x => x i, Or.inl ⟨rfl, a⟩⟩⟩))⟩) (fun i => ⟨fun w s => s = u ∧ GdP (¬ inP L p) (¬ (0 ≤ c ∧ c ≤ 3)) False w, fun w s4 hj _ => guard w s4 hj, n0b ⟨rfl, Or.inl ⟨rfl, i⟩⟩⟩)
    · have i := Classical.not_not.mp x
      have hc03 := Classical.not_not.mp y
      obtain ⟨hL, hW⟩ := hl.gw i
      have ib := i.b hL
      have hm5 : MM L (-1) (-1) (zU u 41 0 0) := MM_F hmu (by decide)
      rw [hm5.1]
      refine ⟨fun e => ⟨by omega, a0 i hc03 _ ⟨fun _ => rfl, fun q => by omega, fun q => by omega, fun q => by omega⟩⟩, fun e => ⟨by omega, a0 i hc03 _ ⟨fun q => by omega, fun _ => rfl, fun q => by omega, fun q => by omega⟩⟩, fun e => t_M_isFlat hm5 hL i (fun f => n1a (a0 i hc03 _ ⟨fun q => by omega, fun q => by omega, fun _ => (cif_t f).symm, fun q => by omega⟩)) (fun f => n0a (a0 i hc03 _ ⟨fun q => by omega, fun q => by omega, fun _ => (cif_f f).symm, fun q => by omega⟩)), fun e => ?_⟩
      refine ⟨fun x y s => s = zU u 41 0 0 ∧ 0 ≤ y ∧ y ≤ 8 ∧ x = bts (Sty L (-1) (-1) p) y.toNat, fun _ y _ => (8 - y).toNat, ⟨rfl, by decide, by decide, rfl⟩, ?_⟩
      rintro x y s ⟨rfl, y0, y8, hI⟩ - -
      refine ⟨fun d => a0 i hc03 _ ⟨fun q => by omega, fun q => by omega, fun q => by omega, fun _ => ?_⟩, fun d => t_M_canStep hm5 hL i ⟨y0, d⟩ (fun st => n1a (fun x8 e8 => ?_)) (fun st => n0a (fun x8 e8 => ?_))⟩
      · rw [hI, show y = 8 by omega]
        rfl
      · refine ⟨⟨rfl, by omega, by omega, ?_⟩, zRi (by omega) (by omega), by dsimp only; omega⟩
        rw [bts_s _ y0, e8, hI, cif_t st]
      · refine ⟨⟨rfl, by omega, by omega, ?_⟩, zRi (by omega) (by omega), by dsimp only; omega⟩
        rw [bts_s _ y0, e8, hI, cif_f st]
  have val : inP L p → (0 ≤ c ∧ c ≤ 3) → ∀ v, ((c = 0 → v = L (13 + p)) ∧ (c = 1 → v = L (94 + p)) ∧ (c = 2 → v = cif (Flt L p) 1 0) ∧ (c = 3 → v = bts (Sty L (-1) (-1) p) 8)) → q_M_place p c (fun v w => Agr 0 v w) (zU σ 64 0 v) := by
    intro i hc03 v hv
    refine ref 0 (zU σ 64 0 v) (FR_64 v) (fun x => absurd i x) (fun _ x => absurd hc03 x) (fun _ _ v' hv' => ?_)
    have e : v' = v := by
      have : c = 0 ∨ c = 1 ∨ c = 2 ∨ c = 3 := by omega
      rcases this with q | q | q | q
      · rw [hv.1 q, hv'.1 q]
      · rw [hv.2.1 q, hv'.2.1 q]
      · rw [hv.2.2.1 q, hv'.2.2.1 q]
      · rw [hv.2.2.2 q, hv'.2.2.2 q]
    rw [e]
    exact Agr_v hi
  unfold q_A_place q_R_place
  refine t_R_needPlace hc hn (fun i => t_R_needAnswer (fun c0 c1 => ?_) (fun nk => Or.inr ⟨rfl, ?_⟩)) (fun ni => Or.inl ⟨rfl, ?_⟩)
  · obtain ⟨hL, hW⟩ := hl.gw i
    have ib := i.b hL
    have hc03 : 0 ≤ c ∧ c ≤ 3 := ⟨c0, by omega⟩
    have hwet := hL.2.2.2 p ib.1 ib.2
    refine ⟨fun e => t_L_height hc hL i (val i hc03 _ ⟨fun _ => rfl, fun q => by omega, fun q => by omega, fun q => by omega⟩), fun e => t_L_isWet hc hL i (fun w => n1a (val i hc03 _ ⟨fun q => by omega, fun _ => w.symm, fun q => by omega, fun q => by omega⟩)) (fun w => n0a (val i hc03 _ ⟨fun q => by omega, fun _ => by omega, fun q => by omega, fun q => by omega⟩)), fun e => t_L_isFlat hc hL i (fun f => n1a (val i hc03 _ ⟨fun q => by omega, fun q => by omega, fun _ => (cif_t f).symm, fun q => by omega⟩)) (fun f => n0a (val i hc03 _ ⟨fun q => by omega, fun q => by omega, fun _ => (cif_f f).symm, fun q => by omega⟩)), fun e => t_L_stepBits hc hL i (val i hc03 _ ⟨fun q => by omega, fun q => by omega, fun q => by omega, fun _ => rfl⟩)⟩
  · exact ref 2 σ (FR_r σ) (fun x => absurd i x) (fun _ _ => Agr_x hi (by decide)) (fun _ x => absurd ⟨x.1, by omega⟩ nk)
  · exact ref 1 σ (FR_r σ) (fun _ => Agr_x hi (by decide)) (fun x => absurd x ni) (fun x => absurd x ni)
theorem pr_term {σ : zS} {c : Int} (hi : INV σ) : q_A_term c (fun r u => q_M_term c (fun v w => Agr r v w) u) σ := by
  obtain ⟨L, hc, hm, hl, -⟩ := id hi
  unfold q_A_term q_R_term
  refine t_R_needAnswer (fun c0 c1 => t_L_value hc ⟨c0, c1⟩ rfl ?_) (fun nk => ⟨rfl, ?_⟩)
  · unfold q_M_term
    have hm1 := FR_MM (FR_64 (L (2 + c))) hm
    refine t_M_isIn (fun a b => ⟨fun w => w = 0, fun w hw _ s4 e4 => ?_, n1a rfl⟩) (fun a => absurd ⟨c0, by omega⟩ a)
    subst hw
    have e0 : s4 41 0 = 0 := by rw [e4, zU_s]
    have hm4 : MM L (-1) (-1) s4 := by rw [e4]; exact MM_F hm1 (by decide)
    rw [e0, hm4.1]
    refine ⟨fun _ => ⟨by omega, ?_⟩, fun q => absurd q (by decide)⟩
    rw [e4]
    exact Agr_v hi
  · unfold q_M_term
    refine t_M_isIn (fun a b => absurd ⟨a, by omega⟩ nk) (fun a => ⟨fun w => w = 1, fun w hw _ s4 e4 => ?_, n0a rfl⟩)
    subst hw
    have e0 : s4 41 0 = 1 := by rw [e4, zU_s]
    rw [e0]
    refine ⟨fun q => absurd q (by decide), fun _ => ?_⟩
    rw [e4]
    exact Agr_x hi (by decide)
theorem pr_at {σ : zS} {r k o : Int} (hi : INV σ) : q_A_at r k o (fun x u => q_M_at r k o (fun v w => Agr x v w) u) σ := by
  obtain ⟨L, hc, hm, hl, -⟩ := id hi
  have ref : ∀ (x : Int) (u : zS), FR σ u → (¬ (0 ≤ r ∧ r < 4) → Agr x 0 (zU u 41 0 1)) → ((0 ≤ r ∧ r < 4) → L (175 + 81 * r) = 0 → Agr x 0 (zU u 41 0 2)) → ((0 ≤ r ∧ r < 4) → L (175 + 81 * r) ≠ 0 → Agr x (if 0 ≤ k ∧ k < L (175 + 81 * r) then (if o = 0 then L (176 + 81 * r + k) else L (216 + 81 * r + k)) else (if o = 0 then -1 else 100)) (zU u 41 0 0)) → q_M_at r k o (fun v w => Agr x v w) u := by
    intro x u fr a1 a2 a0
    have hmu := FR_MM fr hm
    have guard := gd3 (σ := u) (K := fun s => Agr x 0 s) (c1 := ¬ (0 ≤ r ∧ r < 4)) (c2 := L (175 + 81 * r) = 0) (c3 := False) (body := fun σ5 => q_M_many r (fun r9 σ8 => zR (r9 - 1) ∧ (q_M_isIn k 0 (r9 - 1) (fun r12 σ11 => (o = 0 → (r12 = 0 → Agr x (-1) σ11) ∧ (r12 ≠ 0 → q_M_placeAt r k (fun r16 σ15 => Agr x r16 σ15) σ11)) ∧ (o ≠ 0 → (r12 = 0 → Agr x 100 σ11) ∧ (r12 ≠ 0 → q_M_offsetAt r k (fun r19 σ18 => Agr x r19 σ18) σ11))) σ8)) σ5) a1 (fun p q => a2 (Classical.not_not.mp p) q) (fun _ _ p => p.elim) (fun p q _ => ?_)
    · unfold q_M_at
      refine t_M_isRoad (fun b0 b1 => ⟨fun w s => s = u ∧ GdP (¬ (0 ≤ r ∧ r < 4)) (L (175 + 81 * r) = 0) False w, fun w s4 hj _ => guard w s4 hj, n1b (t_M_many hmu ⟨b0, b1⟩ ⟨fun e => ⟨rfl, Or.inr ⟨fun p => p ⟨b0, b1⟩, Or.inr ⟨e, Or.inr ⟨rfl, id⟩⟩⟩⟩, fun e => ⟨rfl, Or.inr ⟨fun p => p ⟨b0, b1⟩, Or.inl ⟨rfl, e⟩⟩⟩⟩)⟩) (fun b => ⟨fun w s => s = u ∧ GdP (¬ (0 ≤ r ∧ r < 4)) (L (175 + 81 * r) = 0) False w, fun w s4 hj _ => guard w s4 hj, n0b ⟨rfl, Or.inl ⟨rfl, b⟩⟩⟩)
    · have hr := Classical.not_not.mp p
      have hm5 : MM L (-1) (-1) (zU u 41 0 0) := MM_F hmu (by decide)
      have hb := hl.rb r hr.1 hr.2
      have a := a0 hr q
      refine t_M_many hm5 hr ⟨zRi (by omega) (by omega), t_M_isIn (fun c d => ?_) (fun c => ?_)⟩
      · rw [if_pos ⟨c, by omega⟩] at a
        refine ⟨fun e => n1a (t_M_placeAt hm5 hr ⟨c, by omega⟩ ?_), fun e => n1a (t_M_offsetAt hm5 hr ⟨c, by omega⟩ ?_)⟩
        · rw [if_pos e] at a; exact a
        · rw [if_neg e] at a; exact a
      · rw [if_neg (by omega)] at a
        refine ⟨fun e => n0a ?_, fun e => n0a ?_⟩
        · rw [if_pos e] at a; exact a
        · rw [if_neg e] at a; exact a
  unfold q_A_at q_R_at
  refine t_R_needRoad (fun b0 b1 => t_R_needBuilt hc ⟨b0, b1⟩ (fun nz => ?_) (fun z => Or.inr ⟨rfl, ref 2 σ (FR_r σ) (fun x => absurd ⟨b0, b1⟩ x) (fun _ _ => Agr_x hi (by decide)) (fun _ x => absurd z x)⟩)) (fun b => Or.inl ⟨rfl, ref 1 σ (FR_r σ) (fun _ => Agr_x hi (by decide)) (fun x => absurd x b) (fun x => absurd x b)⟩)
  have hb := hl.rb r b0 b1
  have val : ∀ v, v = (if 0 ≤ k ∧ k < L (175 + 81 * r) then (if o = 0 then L (176 + 81 * r + k) else L (216 + 81 * r + k)) else (if o = 0 then -1 else 100)) → q_M_at r k o (fun v w => Agr 0 v w) (zU σ 64 0 v) := fun v hv => ref 0 _ (FR_64 v) (fun x => absurd ⟨b0, b1⟩ x) (fun _ x => absurd x nz) (fun _ _ => by rw [← hv]; exact Agr_v hi)
  refine ⟨fun c => ⟨fun e => val _ (by rw [if_neg (by omega), if_pos e]), fun e => val _ (by rw [if_neg (by omega), if_neg e])⟩, fun c => t_L_roadSize hc ⟨b0, b1⟩ ⟨fun d => ⟨fun e => t_L_roadPlace hc ⟨b0, b1⟩ ⟨c, by omega⟩ (val _ (by rw [if_pos ⟨c, d⟩, if_pos e])), fun e => t_L_roadOffset hc ⟨b0, b1⟩ ⟨c, by omega⟩ (val _ (by rw [if_pos ⟨c, d⟩, if_neg e]))⟩, fun d => ⟨fun e => val _ (by rw [if_neg (by omega), if_pos e]), fun e => val _ (by rw [if_neg (by omega), if_neg e])⟩⟩⟩
