/-! ===== the text: the reference reads it ===== -/
section TY
variable {t : Int → Int} {N a : Int} {σ : zS} {O : Out}
def RX (t : Int → Int) (N a : Int) (σ : zS) : Prop := σ 49 = t ∧ σ 41 12 = N ∧ σ 41 13 = a ∧ (0 ≤ a ∧ a ≤ N ∧ N ≤ 400)
theorem t_M_here {K : Int → zS → Prop} (hx : RX t N a σ) (h : ∀ τ, zQ [41] σ τ → (∀ k, k ≠ 13 → τ 41 k = σ 41 k) → RX t N (sk t N a) τ → K (sk t N a) τ) : q_M_here K σ := by
  obtain ⟨h2, h3, h4, a0, a1, hN⟩ := hx
  have sb := sk_b (t := t) a1
  unfold q_M_here
  refine ⟨fun s => zQ [41] σ s ∧ (∀ k, k ≠ 13 → s 41 k = σ 41 k) ∧ a ≤ s 41 13 ∧ s 41 13 ≤ N ∧ sk t N (s 41 13) = sk t N a, fun s => (N - s 41 13).toNat, ⟨zQ_r _ _, fun _ _ => rfl, by omega, by omega, by rw [h4]⟩, ?_⟩
  rintro s ⟨hq, f41, s5, s5N, hs⟩
  have s12 : s 41 12 = N := by rw [f41 12 (by decide)]; exact h3
  have s49 : s 49 = t := by rw [hq 49 (by decide)]; exact h2
  have fin : ¬ (s 41 13 < N ∧ t (s 41 13) = 32) → K (s 41 13) s := fun nc => by
    have e := sk_stop nc
    have es : s 41 13 = sk t N a := by rw [← hs]; exact e.symm
    have := h s hq f41 ⟨s49, s12, es, by omega⟩
    rw [← es] at this
    exact this
  rw [s12, s49]
  refine ⟨fun c => fin (fun z => by omega), fun c => ⟨by omega, fun ne => fin (fun z => ne z.2), fun eq => ⟨zRi (by omega) (by omega), fun s1 e1 => ?_⟩⟩⟩
  have v : s1 41 13 = s 41 13 + 1 := by rw [e1, zU_s]
  refine ⟨⟨by rw [e1]; exact zQ_t hq (zQ_U (by decide)), fun k hk => by rw [e1, zU_k hk]; exact f41 k hk, by omega, by omega, ?_⟩, ?_⟩
  · rw [v, ← sk_blank c eq]; exact hs
  · dsimp only
    rw [v]
    omega
theorem t_M_has {K : Int → zS → Prop} {w : List Int} (hx : RX t N a σ) (hf : σ 41 14 = -1) (hw : ∀ x ∈ w, ltr x) (hl : w.length ≤ 400) (h1 : WdP t N (sk t N a) w → ∀ τ, zQ [41] σ τ → (∀ k, k ≠ 13 → τ 41 k = σ 41 k) → RX t N (sk t N a + w.length) τ → K 1 τ) (h0 : ¬ WdP t N (sk t N a) w → ∀ τ, zQ [41] σ τ → (∀ k, k ≠ 13 → τ 41 k = σ 41 k) → RX t N (sk t N a) τ → K 0 τ) : q_M_has w K σ := by
  have sb := sk_b (t := t) hx.2.2.2.2.1
  unfold q_M_has q_J_len q_J_charAt
  refine t_M_here hx (fun τ q f41 hx1 => ?_)
  generalize eb : sk t N a = b at *
  obtain ⟨h2, h3, h4, b0, b1, hN⟩ := id hx1
  have t14 : τ 41 14 = -1 := by rw [f41 14 (by decide)]; exact hf
  have fail : ¬ WdP t N b w → K 0 τ := fun n => h0 n τ q f41 hx1
  refine ⟨fun y s => s = τ ∧ b ≤ y ∧ y ≤ N ∧ ∀ i, b ≤ i → i < y → ltr (t i), fun y _ => (N - y).toNat, ⟨rfl, by omega, by omega, fun i i0 i1 => by omega⟩, ?_⟩
  rintro y s ⟨rfl, y0, y1, hI⟩ -
  refine ⟨fun v s' => s' = s ∧ v = y ∧ (y < N → ¬ ltr (t y)), fun v s' hv _ => ?_, ?_⟩
  · obtain ⟨rfl, rfl, hnl⟩ := hv
    rw [t14, h4]
    refine ⟨fun z => absurd rfl z, fun _ => ⟨zRi (by omega) (by omega), fun e => ?_, fun ne => fail (fun hP => ?_)⟩⟩
    · refine ⟨fun j u => u = s' ∧ 0 ≤ j ∧ j ≤ w.length ∧ ∀ i : Int, 0 ≤ i → i < j → t (b + i) = w.getD i.toNat 0, fun j _ => (401 - j).toNat, ⟨rfl, by decide, by omega, fun i i0 i1 => by omega⟩, ?_⟩
      rintro j u ⟨rfl, j0, j1, hJ⟩ -
      rw [h4, h2]
      refine ⟨fun c s20 e20 => ?_, fun c => ⟨by omega, ⟨j0, c⟩, fun eq => ⟨⟨rfl, by omega, by omega, fun i i0 i1 => ?_⟩, zRi (by omega) (by omega), by dsimp only; omega⟩, fun ne => fail (fun hP => ne (hP.2.1 j j0 c))⟩⟩
      · have hP : WdP t N b w := ⟨by omega, fun i i0 i1 => hJ i i0 (by omega), fun lt => by rw [show b + (w.length : Int) = v by omega]; exact hnl (by omega)⟩
        exact h1 hP s20 (by rw [e20]; exact zQ_t q (zQ_U (by decide))) (fun k hk => by rw [e20, zU_k hk]; exact f41 k hk) ⟨by rw [e20, zU_row (by decide)]; exact h2, by rw [e20, zU_k (by decide)]; exact h3, by rw [e20, zU_s]; omega, by omega⟩
      · by_cases ei : i = j
        · rw [ei]; exact eq
        · exact hJ i i0 (by omega)
    · have hp1 := hP.1
      by_cases lt : v - b < w.length
      · have e1 := hP.2.1 (v - b) (by omega) lt
        rw [show b + (v - b) = v by omega] at e1
        refine hnl (by omega) ?_
        rw [e1]
        exact hw _ (getD_mem (by omega))
      · exact hP.2.2 (by omega) (hI _ (by omega) (by omega))
  · rw [h3]
    refine ⟨fun c => ⟨rfl, rfl, fun z => by omega⟩, fun c => ⟨by omega, ?_⟩⟩
    rw [h2]
    refine t_M_isIn (fun c1 c2 => n1a ⟨⟨rfl, by omega, by omega, fun i i0 i1 => ?_⟩, zRi (by omega) (by omega), by dsimp only; omega⟩) (fun n => n0a ⟨rfl, rfl, fun _ => n⟩)
    by_cases ei : i = y
    · rw [ei]; exact ⟨c1, c2⟩
    · exact hI i i0 (by omega)
/-- it goes on by f, or is at fault -/
def LV (t : Int → Int) (N : Int) (O : Out) (f : Int → Out) (σ : zS) : Prop := (σ 41 14 = -1 ∧ ∃ a, RX t N a σ ∧ O = f a) ∨ (0 ≤ σ 41 14 ∧ O = er (σ 41 14))
theorem wrong_dead {K : zS → Prop} {b : Int} {f : Int → Out} (h14 : σ 41 14 = -1) (b0 : 0 ≤ b) (e : O = er b) (h : ∀ τ, zQ [41] σ τ → (∀ k, k ≠ 14 → τ 41 k = σ 41 k) → LV t N O f τ → τ 41 14 ≠ -1 → K τ) : q_M_wrong b K σ := by
  unfold q_M_wrong
  refine ⟨fun z => absurd h14 z, fun _ s3 e3 => ?_⟩
  have v : s3 41 14 = b := by rw [e3, zU_s]
  exact h s3 (by rw [e3]; exact zQ_U (by decide)) (fun k hk => by rw [e3, zU_k hk]) (Or.inr ⟨by omega, by rw [v]; exact e⟩) (by omega)
theorem t_M_expects {K : zS → Prop} {w : List Int} {f : Int → Out} (hv : LV t N O (fun a => sWord t N w a f) σ) (hw : ∀ x ∈ w, ltr x) (hl : w.length ≤ 400) (h : ∀ τ, zQ [41] σ τ → (∀ k, k ≠ 13 → k ≠ 14 → τ 41 k = σ 41 k) → LV t N O f τ → K τ) : q_M_expects w K σ := by
  unfold q_M_expects
  rcases hv with ⟨h14, a, hx, eO⟩ | ⟨h14, eO⟩
  · have sb := sk_b (t := t) hx.2.2.2.2.1
    have a0 := hx.2.2.2.1
    refine ⟨fun z => absurd h14 z, fun _ => t_M_has hx h14 hw hl (fun hP τ q f41 hx1 => n1b (h τ q (fun k k1 _ => f41 k k1) (Or.inl ⟨by rw [f41 14 (by decide)]; exact h14, _, hx1, eO.trans (oif_t hP)⟩))) (fun nP τ q f41 hx1 => n0b ?_)⟩
    rw [hx1.2.2.1]
    exact wrong_dead (t := t) (N := N) (f := f) (by rw [f41 14 (by decide)]; exact h14) (by omega) (eO.trans (oif_f nP)) (fun τ2 q2 f2 hv2 _ => h τ2 (zQ_t q q2) (fun k k1 k2 => by rw [f2 k k2]; exact f41 k k1) hv2)
  · exact ⟨fun _ => h σ (zQ_r _ _) (fun _ _ _ => rfl) (Or.inr ⟨h14, eO⟩), fun z => by omega⟩
theorem t_M_mustSign {K : zS → Prop} {f : Int → Out} (hv : LV t N O (fun a => sMark t N a f) σ) (h : ∀ τ, zQ [41] σ τ → (∀ k, k ≠ 13 → k ≠ 14 → τ 41 k = σ 41 k) → LV t N O f τ → K τ) : q_M_mustSign K σ := by
  unfold q_M_mustSign
  rcases hv with ⟨h14, a, hx, eO⟩ | ⟨h14, eO⟩
  · have sb := sk_b (t := t) hx.2.2.2.2.1
    have a0 := hx.2.2.2.1
    refine ⟨fun _ => t_M_here hx (fun τ q f41 hx1 => ?_), fun z => absurd h14 z⟩
    obtain ⟨h2, h3, h4, b0, b1, hN⟩ := id hx1
    have t14 : τ 41 14 = -1 := by rw [f41 14 (by decide)]; exact h14
    rw [h3, h4, h2]
    have bad : ¬ (sk t N a < N ∧ t (sk t N a) = 59) → q_M_wrong (sk t N a) (fun σ8 => K σ8) τ := fun nm => wrong_dead (t := t) (N := N) (f := f) t14 (by omega) (eO.trans (oif_f nm)) (fun τ2 q2 f2 hv2 _ => h τ2 (zQ_t q q2) (fun k k1 k2 => by rw [f2 k k2]; exact f41 k k1) hv2)
    refine ⟨fun c => bad (fun z => by omega), fun c => ⟨by omega, fun ne => bad (fun z => ne z.2), fun e => ⟨zRi (by omega) (by omega), fun s17 e17 => ?_⟩⟩⟩
    refine h s17 (by rw [e17]; exact zQ_t q (zQ_U (by decide))) (fun k k1 _ => by rw [e17, zU_k k1]; exact f41 k k1) (Or.inl ⟨by rw [e17, zU_k (by decide)]; exact t14, sk t N a + 1, ⟨by rw [e17, zU_row (by decide)]; exact h2, by rw [e17, zU_k (by decide)]; exact h3, by rw [e17, zU_s], by omega⟩, eO.trans (oif_t ⟨c, e⟩)⟩)
  · exact ⟨fun z => by omega, fun _ => h σ (zQ_r _ _) (fun _ _ _ => rfl) (Or.inr ⟨h14, eO⟩)⟩
theorem t_M_number {K : Int → zS → Prop} {lo hi : Int} {f : Int → Int → Out} (hv : LV t N O (fun a => sNum t N lo hi a f) σ) (h : ∀ v τ, zQ [41] σ τ → (∀ k, k ≠ 13 → k ≠ 14 → τ 41 k = σ 41 k) → LV t N O (f v) τ → (τ 41 14 = -1 → lo ≤ v ∧ v ≤ hi) → (τ 41 14 = -1 → σ 41 14 = -1) → K v τ) : q_M_number lo hi K σ := by
  unfold q_M_number
  rcases hv with ⟨h14, a, hx, eO⟩ | ⟨h14, eO⟩
  · have sb := sk_b (t := t) hx.2.2.2.2.1
    have a0 := hx.2.2.2.1
    refine ⟨fun _ => t_M_here hx (fun τ q f41 hx1 => ?_), fun z => absurd h14 z⟩
    have eO1 : O = oif (NOk t N (sk t N a) lo hi) (f (vl t (sk t N a) (nd t N (sk t N a))) (sk t N a + nd t N (sk t N a))) (er (sk t N a)) := eO
    generalize eb : sk t N a = b at *
    obtain ⟨h2, h3, h4, b0, b1, hN⟩ := id hx1
    have t14 : τ 41 14 = -1 := by rw [f41 14 (by decide)]; exact h14
    have nb := nd_b t N b
    refine ⟨fun v s => zQ [41] τ s ∧ (∀ k, k ≠ 13 → s 41 k = τ 41 k) ∧ b ≤ s 41 13 ∧ s 41 13 - b ≤ nd t N b ∧ v = vl t b (s 41 13 - b), fun _ s => (3 - (s 41 13 - b)).toNat, ⟨zQ_r _ _, fun _ _ => rfl, by omega, by omega, by rw [h4, show b - b = 0 by omega]; rfl⟩, ?_⟩
    rintro v s ⟨qs, fs, y0, yn, ev⟩ -
    have s14 : s 41 14 = -1 := by rw [fs 14 (by decide)]; exact t14
    have s12 : s 41 12 = N := by rw [fs 12 (by decide)]; exact h3
    have s49 : s 49 = t := by rw [qs 49 (by decide)]; exact h2
    generalize ey : s 41 13 - b = y at *
    have e13 : s 41 13 = b + y := by omega
    refine ⟨fun v' s' => s' = s ∧ v' = v ∧ nd t N b = y, fun v' s' hj _ => ?_, ?_⟩
    · obtain ⟨rfl, rfl, en⟩ := hj
      have bad : ¬ NOk t N b lo hi → q_M_wrong b (fun σ13 => K v' σ13) s' := fun no => wrong_dead (t := t) (N := N) (f := f v') s14 b0 (eO1.trans (oif_f no)) (fun τ2 q2 f2 hv2 d2 => h v' τ2 (zQ_t q (zQ_t qs q2)) (fun k k1 k2 => by rw [f2 k k2, fs k k1]; exact f41 k k1) hv2 (fun z => absurd z d2) (fun z => absurd z d2))
      rw [e13]
      refine ⟨fun e => bad (fun z => by have := z.1; omega), fun ne => ⟨zRi (by omega) (by omega), fun g => bad (fun z => by have := z.1; omega), fun g => ⟨fun lt => bad (fun z => by have := z.2.1; rw [en, ← ev] at this; omega), fun ge => ⟨fun le => ?_, fun gt => bad (fun z => by have := z.2.2; rw [en, ← ev] at this; omega)⟩⟩⟩⟩
      have ok : NOk t N b lo hi := ⟨by omega, by rw [en, ← ev]; exact ge, by rw [en, ← ev]; exact le⟩
      have dN := nd_N en (by omega)
      have eO2 := eO1.trans (oif_t ok)
      rw [en, ← ev] at eO2
      exact h v' s' (zQ_t q qs) (fun k k1 _ => by rw [fs k k1]; exact f41 k k1) (Or.inl ⟨s14, b + y, ⟨s49, s12, e13, by omega⟩, eO2⟩) (fun _ => ⟨ge, le⟩) (fun _ => h14)
    · rw [s12, e13, s49]
      have vb := vl_b (t := t) (b := b) (by omega : 0 ≤ y) yn
      refine ⟨fun c => ⟨rfl, rfl, ?_⟩, fun c => ⟨by omega, ?_⟩⟩
      · by_cases y3 : y = 3
        · have := nd_N (t := t) (N := N) (b := b) (y := 3) (by omega) (by decide)
          omega
        · exact (nd_next (by omega) (by omega) yn).2 (fun z => by have := z.1; omega)
      · refine t_M_isIn (fun c1 c2 => n1a ⟨zRi (by omega) (by omega), fun g => ⟨rfl, rfl, by omega⟩, fun g => ⟨by omega, fun x35 e35 => ⟨zRi (by omega) (by omega), fun s38 e38 => ?_⟩⟩⟩) (fun n => n0a ⟨rfl, rfl, ?_⟩)
        · have y2 : y ≤ 2 := by omega
          have n1 := (nd_next (by omega) y2 yn).1 ⟨c, c1, c2⟩
          have vs := vl_s (t := t) (b := b) (by omega : 0 ≤ y) y2
          have vb1 := vl_b (t := t) (N := N) (b := b) (y := y + 1) (by omega) n1
          have v13 : s38 41 13 = b + y + 1 := by rw [e38, zU_s, e13]
          rw [e13, s49] at e35
          refine ⟨⟨by rw [e38]; exact zQ_t qs (zQ_U (by decide)), fun k hk => by rw [e38, zU_k hk]; exact fs k hk, by omega, by rw [v13]; omega, ?_⟩, zRi (by omega) (by omega), ?_⟩
          · rw [v13, show b + y + 1 - b = y + 1 by omega, vs]
            omega
          · dsimp only
            rw [v13, ey]
            omega
        · by_cases y3 : y = 3
          · omega
          · exact (nd_next (by omega) (by omega) yn).2 (fun z => n z.2)
  · exact ⟨fun z => by omega, fun _ => h 0 σ (zQ_r _ _) (fun _ _ _ => rfl) (Or.inr ⟨h14, eO⟩) (fun z => by omega) (fun z => z)⟩
end TY
