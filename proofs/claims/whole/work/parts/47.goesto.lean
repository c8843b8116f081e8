def qf_gt (to_ kind : Int) (K : zS → Prop) (σ : zS) : Prop :=
  ∃ (I11 : Int → zS → Prop) (μ11 : Int → zS → Nat), (I11 0 σ) ∧ ∀ (y2 : Int) (σ3 : zS), I11 y2 σ3 → zR y2 →
  (648 ≤ y2 →
   ∃ (I66 : Int → zS → Prop) (μ66 : Int → zS → Nat), (I66 1 σ3) ∧ ∀ (y5 : Int) (σ6 : zS), I66 y5 σ6 → zR y5 →
   (y5 = 0 →
    K σ6) ∧ (y5 ≠ 0 →
    ∃ (I75 : Int → Int → zS → Prop) (μ75 : Int → Int → zS → Nat), (I75 0 0 σ6) ∧ ∀ (y8 y9 : Int) (σ10 : zS), I75 y8 y9 σ10 → zR y8 → zR y9 →
    q_M_places (fun r12 σ11 =>
     (r12 ≤ y9 →
      I66 y8 σ11 ∧ μ66 y8 σ11 < μ66 y5 σ6) ∧ (y9 < r12 →
      ∃ (I87 : Int → Int → zS → Prop) (μ87 : Int → Int → zS → Nat), (I87 y8 0 σ11) ∧ ∀ (y14 y15 : Int) (σ16 : zS), I87 y14 y15 σ16 → zR y14 → zR y15 →
      (8 ≤ y15 →
       I75 y14 (y9 + 1) σ16 ∧ zR (y9 + 1) ∧ μ75 y14 (y9 + 1) σ16 < μ75 y8 y9 σ10) ∧ (y15 < 8 →
       (y9 = to_ →
        I75 y14 (y9 + 1) σ16 ∧ zR (y9 + 1) ∧ μ75 y14 (y9 + 1) σ16 < μ75 y8 y9 σ10) ∧ (y9 ≠ to_ →
        q_M_eases y9 y15 kind (fun r24 σ23 =>
         (r24 ≠ 0 →
          I87 1 (y15 + 1) σ23 ∧ zR (y15 + 1) ∧ μ87 1 (y15 + 1) σ23 < μ87 y14 y15 σ16) ∧ (r24 = 0 →
          (y14 = 0 →
           I87 0 (y15 + 1) σ23 ∧ zR (y15 + 1) ∧ μ87 0 (y15 + 1) σ23 < μ87 y14 y15 σ16) ∧ (y14 ≠ 0 →
           I87 1 (y15 + 1) σ23 ∧ zR (y15 + 1) ∧ μ87 1 (y15 + 1) σ23 < μ87 y14 y15 σ16))) σ16)))) σ10)) ∧ (y2 < 648 →
   ∃ J37 : Int → Prop, (∀ (w33 : Int), J37 w33 → zR w33 →
    (0 ≤ y2 ∧ y2 < 648) ∧ (∀ σ35 : zS, σ35 = zU σ3 51 y2 w33 → zR (Int.tdiv y2 8) ∧ (((Int.tdiv y2 8) ≠ to_ →
       ∀ σ38 : zS, σ38 = zU σ35 52 y2 1000000000 → I11 (y2 + 1) σ38 ∧ zR (y2 + 1) ∧ μ11 (y2 + 1) σ38 < μ11 y2 σ3) ∧ ((Int.tdiv y2 8) = to_ →
       ∀ σ41 : zS, σ41 = zU σ35 52 y2 0 → I11 (y2 + 1) σ41 ∧ zR (y2 + 1) ∧ μ11 (y2 + 1) σ41 < μ11 y2 σ3)))) ∧
   (zR (Int.tdiv y2 8) ∧ (((Int.tdiv y2 8) ≠ to_ →
      J37 1000000000) ∧ ((Int.tdiv y2 8) = to_ →
      J37 0))))
def gtC (E : Int → Int → Int → Prop) (P : Int → Prop) (d : Int → Int) : Prop := ∀ v u w, P v → E v u w → d u < 1025000000000 → d v ≤ d u + w
theorem t_M_gtLoop {K : zS → Prop} {σ : zS} {L C : Int → Int} {A B kind to_ : Int} (hm : MM L A B σ) (hL : GW L) (hR : RB L) (hCB : CB L C) (hC : kind = 5 → ∀ p, inP L p → σ 62 p = C p) (hk : 0 ≤ kind ∧ kind ≤ 5) (hto : inP L to_) (h : ∀ τ, zQ [51, 52] σ τ → GT (mBs to_) (mEd L C A B kind to_) (τ 51) (τ 52) → Lab 1025000000000 (fun v : Int => 0 ≤ v ∧ v < 648) (mBs to_) (mEd L C A B kind to_) (enc (τ 51) (τ 52)) → K τ) : qf_gt to_ kind K σ := by
  have hn := hL.n
  have hto2 := hto.b hL
  unfold qf_gt
  refine ⟨fun y s => zQ [51, 52] σ s ∧ 0 ≤ y ∧ y ≤ 648 ∧ ∀ v, 0 ≤ v → v < y → (v / 8 = to_ → s 51 v = 0 ∧ s 52 v = 0) ∧ (v / 8 ≠ to_ → s 51 v = 1000000000 ∧ s 52 v = 1000000000), fun y _ => (648 - y).toNat, ⟨zQ_r _ _, by decide, by decide, fun v a b => by omega⟩, ?_⟩
  rintro y s ⟨hq, y0, y1, hI⟩ -
  refine ⟨fun c => ?_, fun c => ?_⟩
  · have hG : GT (mBs to_) (mEd L C A B kind to_) (s 51) (s 52) := by
      have ev : ∀ v, 0 ≤ v → v < 648 → (v / 8 = to_ → enc (s 51) (s 52) v = 0) ∧ (v / 8 ≠ to_ → enc (s 51) (s 52) v = 1025000000000) := fun v v0 v1 => by
        have a := hI v v0 (by omega)
        have e : enc (s 51) (s 52) v = s 51 v * 1024 + s 52 v := rfl
        exact ⟨fun q => by have := a.1 q; omega, fun q => by have := a.2 q; omega⟩
      refine ⟨fun v v0 v1 => ?_, fun v v0 v1 => ?_, fun v hv hf => ?_, fun v b hb => ?_⟩
      · have a := hI v v0 (by omega)
        by_cases e : v / 8 = to_
        · have := a.1 e
          exact Or.inr ⟨by omega, by omega, by omega, by omega⟩
        · exact Or.inl (a.2 e)
      · have a := ev v v0 v1
        by_cases e : v / 8 = to_
        · rw [a.1 e]
          exact ⟨by omega, by omega, fun _ => by omega⟩
        · rw [a.2 e]
          exact ⟨by omega, by omega, fun q => absurd q (by omega)⟩
      · have a := ev v hv.1 hv.2
        by_cases e : v / 8 = to_
        · exact Or.inl ⟨v % 8, by omega, by omega, by omega, a.1 e⟩
        · rw [a.2 e] at hf
          exact absurd hf (by omega)
      · obtain ⟨x, x0, x1, e1, e2⟩ := hb
        rw [(ev v (by omega) (by omega)).1 (by omega), e2]
        exact Int.le_refl 0
    refine ⟨fun x s => zQ [51, 52] σ s ∧ GT (mBs to_) (mEd L C A B kind to_) (s 51) (s 52) ∧ (x = 0 ∨ x = 1) ∧ (x = 0 → gtC (mEd L C A B kind to_) (fun _ => True) (enc (s 51) (s 52))), fun x s => 2 * sgm 648 (enc (s 51) (s 52)) + x.toNat, ⟨hq, hG, Or.inr rfl, fun e => absurd e (by decide)⟩, ?_⟩
    rintro x s ⟨hq, hG, hx, hf⟩ -
    refine ⟨fun e => h s hq hG (RI_lab hG.2 (fun v u w => hf e v u w trivial)), fun e => ?_⟩
    refine ⟨fun z y s' => zQ [51, 52] σ s' ∧ GT (mBs to_) (mEd L C A B kind to_) (s' 51) (s' 52) ∧ 0 ≤ y ∧ y ≤ L 0 * L 1 ∧ ((z = 0 ∧ s' = s ∧ gtC (mEd L C A B kind to_) (fun v => v < 8 * y) (enc (s 51) (s 52))) ∨ (z = 1 ∧ sgm 648 (enc (s' 51) (s' 52)) < sgm 648 (enc (s 51) (s 52)))), fun _ y _ => (81 - y).toNat, ⟨hq, hG, by decide, by omega, Or.inl ⟨rfl, rfl, fun v u w hv he => by have := (mEd_b hL hCB he).1; omega⟩⟩, ?_⟩
    rintro z y s' ⟨hq', hG', y0, y1, hz⟩ - -
    have hm' := MM_Q hm hq' (by decide)
    refine t_M_places hm' (by omega) ⟨fun d => ⟨⟨hq', hG', ?_, fun e0 => ?_⟩, ?_⟩, fun d => ?_⟩
    · rcases hz with a | a
      · exact Or.inl a.1
      · exact Or.inr a.1
    · rcases hz with ⟨a, b, f⟩ | a
      · rw [b]
        intro v u w _ he
        obtain ⟨p, x, g, ip, -, hx, -, -, -, e1, -⟩ := id he
        exact f v u w (by have := ip.2; show v < 8 * y; omega) he
      · omega
    · dsimp only
      have : x = 1 := hx.resolve_left e
      rcases hz with ⟨a, b, f⟩ | ⟨a, b⟩
      · rw [a, b, this]; omega
      · rw [a, this]; omega
    · refine ⟨fun z' g s2 => zQ [51, 52] σ s2 ∧ GT (mBs to_) (mEd L C A B kind to_) (s2 51) (s2 52) ∧ 0 ≤ g ∧ g ≤ 8 ∧ ((z' = 0 ∧ s2 = s ∧ gtC (mEd L C A B kind to_) (fun v => v < 8 * y + g) (enc (s 51) (s 52))) ∨ (z' = 1 ∧ sgm 648 (enc (s2 51) (s2 52)) < sgm 648 (enc (s 51) (s 52)))), fun _ g _ => (8 - g).toNat, ⟨hq', hG', by decide, by decide, ?_⟩, ?_⟩
      · rcases hz with ⟨a, b, f⟩ | a
        · exact Or.inl ⟨a, b, fun v u w hv => f v u w (by show v < 8 * y; have : v < 8 * y + 0 := hv; omega)⟩
        · exact Or.inr a
      rintro z' g s2 ⟨hq2, hG2, g0, g8, hz2⟩ - -
      have hm2 := MM_Q hm hq2 (by decide)
      have fin : (z' = 0 → s2 = s → gtC (mEd L C A B kind to_) (fun v => v < 8 * (y + 1)) (enc (s 51) (s 52))) → (zQ [51, 52] σ s2 ∧ GT (mBs to_) (mEd L C A B kind to_) (s2 51) (s2 52) ∧ 0 ≤ y + 1 ∧ y + 1 ≤ L 0 * L 1 ∧ ((z' = 0 ∧ s2 = s ∧ gtC (mEd L C A B kind to_) (fun v => v < 8 * (y + 1)) (enc (s 51) (s 52))) ∨ (z' = 1 ∧ sgm 648 (enc (s2 51) (s2 52)) < sgm 648 (enc (s 51) (s 52))))) ∧ zR (y + 1) ∧ (81 - (y + 1)).toNat < (81 - y).toNat := fun hh => by
        refine ⟨⟨hq2, hG2, by omega, by omega, ?_⟩, zRi (by omega) (by omega), by omega⟩
        rcases hz2 with ⟨a, b, f⟩ | a
        · exact Or.inl ⟨a, b, hh a b⟩
        · exact Or.inr a
      refine ⟨fun c8 => fin (fun a b => ?_), fun c8 => ⟨fun et => fin (fun a b => ?_), fun et => ?_⟩⟩
      · rcases hz2 with ⟨_, _, f⟩ | q
        · exact fun v u w hv => f v u w (by show v < 8 * y + g; have : v < 8 * (y + 1) := hv; omega)
        · omega
      · rcases hz2 with ⟨_, _, f⟩ | q
        · intro v u w hv he
          obtain ⟨p, x, g', ip, hpt, hx, -, -, -, e1, -⟩ := id he
          have hv' : v < 8 * (y + 1) := hv
          exact f v u w (by show v < 8 * y + g; omega) he
        · omega
      · refine t_M_eases hm2 hL hR hCB (fun e p' ip' => by rw [hq2 62 (by decide)]; exact hC e p' ip') hk ⟨y0, d⟩ et ⟨g0, c8⟩ hG2 (fun hcl => n0b ⟨fun z0 => ?_, fun z0 => ?_⟩) (fun τ hτ hGτ hlt => n1b ?_)
        · refine ⟨⟨hq2, hG2, by omega, by omega, ?_⟩, zRi (by omega) (by omega), by dsimp only; omega⟩
          rcases hz2 with ⟨a, b, f⟩ | a
          · refine Or.inl ⟨rfl, b, fun v u w hv he => ?_⟩
            have hv' : v < 8 * y + (g + 1) := hv
            by_cases ev : v = 8 * y + g
            · subst ev
              rw [b] at hcl
              exact hcl u w he
            · exact f v u w (by show v < 8 * y + g; omega) he
          · omega
        · refine ⟨⟨hq2, hG2, by omega, by omega, ?_⟩, zRi (by omega) (by omega), by dsimp only; omega⟩
          rcases hz2 with ⟨a, b, f⟩ | a
          · exact absurd a z0
          · exact Or.inr ⟨rfl, a.2⟩
        · refine ⟨⟨zQ_t hq2 hτ, hGτ, by omega, by omega, Or.inr ⟨rfl, ?_⟩⟩, zRi (by omega) (by omega), by dsimp only; omega⟩
          rcases hz2 with ⟨a, b, f⟩ | a
          · rw [b] at hlt
            exact hlt
          · omega
  · rw [Int.tdiv_eq_ediv_of_nonneg y0]
    have nxt : ∀ (a : Int) (s1 : zS), s1 = zU (zU s 51 y a) 52 y a → ((y / 8 = to_ → a = 0) ∧ (y / 8 ≠ to_ → a = 1000000000)) → (zQ [51, 52] σ s1 ∧ 0 ≤ y + 1 ∧ y + 1 ≤ 648 ∧ ∀ v, 0 ≤ v → v < y + 1 → (v / 8 = to_ → s1 51 v = 0 ∧ s1 52 v = 0) ∧ (v / 8 ≠ to_ → s1 51 v = 1000000000 ∧ s1 52 v = 1000000000)) ∧ zR (y + 1) ∧ (648 - (y + 1)).toNat < (648 - y).toNat := by
      intro a s1 e1 ha
      refine ⟨⟨by rw [e1]; exact zQ_t hq (zQ_t (zQ_U (by decide)) (zQ_U (by decide))), by omega, by omega, fun v v0 v1 => ?_⟩, zRi (by omega) (by omega), by omega⟩
      have g51 : s1 51 v = if v = y then a else s 51 v := by rw [e1, zU_o (by decide), zU_if]
      have g52 : s1 52 v = if v = y then a else s 52 v := by rw [e1, zU_if, zU_o (by decide)]
      rw [g51, g52]
      by_cases e : v = y
      · rw [if_pos e, if_pos e, e]
        exact ⟨fun q => ⟨ha.1 q, ha.1 q⟩, fun q => ⟨ha.2 q, ha.2 q⟩⟩
      · rw [if_neg e, if_neg e]
        exact hI v v0 (by omega)
    refine ⟨fun w => (y / 8 = to_ → w = 0) ∧ (y / 8 ≠ to_ → w = 1000000000), fun w hw _ => ⟨⟨y0, c⟩, fun s1 e1 => ⟨zRi (by omega) (by omega), fun d s2 e2 => ?_, fun d s2 e2 => ?_⟩⟩, zRi (by omega) (by omega), fun d => ⟨fun e => absurd e d, fun _ => rfl⟩, fun d => ⟨fun _ => rfl, fun e => absurd d e⟩⟩
    · have := hw.2 d
      subst this
      exact nxt _ s2 (by rw [e2, e1]) ⟨fun e => absurd e d, fun _ => rfl⟩
    · have := hw.1 d
      subst this
      exact nxt _ s2 (by rw [e2, e1]) ⟨fun _ => rfl, fun e => absurd d e⟩
theorem t_M_goesTo {K : zS → Prop} {σ : zS} {L : Int → Int} {A B kind to_ : Int} (hm : MM L A B σ) (hL : GW L) (hR : RB L) (hk : 0 ≤ kind ∧ kind ≤ 5) (hto : inP L to_) (h : ∀ τ, zQ [51, 52, 62] σ τ → (kind = 5 → ∀ p, inP L p → τ 62 p = catL L p) → GT (mBs to_) (mEd L (catL L) A B kind to_) (τ 51) (τ 52) → Lab 1025000000000 (fun v : Int => 0 ≤ v ∧ v < 648) (mBs to_) (mEd L (catL L) A B kind to_) (enc (τ 51) (τ 52)) → K τ) : q_M_goesTo to_ kind K σ := by
  have hCB := catL_CB hL
  unfold q_M_goesTo
  refine ⟨fun c => ?_, fun c => t_M_laysCatches hm hL (fun τ hτ hcat => ?_)⟩
  · exact t_M_gtLoop (C := catL L) hm hL hR hCB (fun e => absurd e c) hk hto (fun τ hτ h1 h2 => h τ (zQ_m hτ (by decide)) (fun e => absurd e c) h1 h2)
  · exact t_M_gtLoop (C := catL L) (MM_Q hm hτ (by decide)) hL hR hCB (fun _ => hcat) hk hto (fun τ' hτ' h1 h2 => h τ' (zQ_t (zQ_m hτ (by decide)) (zQ_m hτ' (by decide))) (fun _ p ip => by rw [hτ' 62 (by decide)]; exact hcat p ip) h1 h2)
