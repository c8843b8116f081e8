/-! ===== the text: the class reads it ===== -/
section TV
variable {t : Int → Int} {N a : Int} {σ : zS}
def CX (t : Int → Int) (N a : Int) (σ : zS) : Prop := (∀ i, 0 ≤ i → i < 400 → σ 2 i = t i) ∧ σ 6 3 = N ∧ σ 6 4 = a ∧ (0 ≤ a ∧ a ≤ N ∧ N ≤ 400)
theorem t_T_byteAt {K : Int → zS → Prop} {k : Int} (h2 : ∀ i, 0 ≤ i → i < 400 → σ 2 i = t i) (k0 : 0 ≤ k) (k1 : k < 400) (h : K (t k) σ) : q_T_byteAt k K σ := by
  unfold q_T_byteAt
  rw [h2 k k0 k1]
  exact ⟨fun c => by omega, fun _ => ⟨fun c => by omega, fun _ => ⟨⟨k0, k1⟩, h⟩⟩⟩
theorem t_X_toNextThing {K : zS → Prop} (hx : CX t N a σ) (h : ∀ τ, zQ [6] σ τ → CX t N (sk t N a) τ → τ 6 5 = sk t N a → K τ) : q_X_toNextThing K σ := by
  obtain ⟨h2, h3, h4, a0, a1, hN⟩ := hx
  have sb := sk_b (t := t) a1
  unfold q_X_toNextThing
  intro s2 e2
  refine ⟨fun s => zQ [6] σ s ∧ s 6 3 = N ∧ a ≤ s 6 5 ∧ s 6 5 ≤ N ∧ sk t N (s 6 5) = sk t N a, fun s => (N - s 6 5).toNat, ⟨by rw [e2]; exact zQ_U (by decide), by rw [e2, zU_k (by decide)]; exact h3, by rw [e2, zU_s, h4]; exact Int.le_refl _, by rw [e2, zU_s, h4]; exact a1, by rw [e2, zU_s, h4]⟩, ?_⟩
  rintro s ⟨hq, s3, s5, s5N, hs⟩
  have s2t : ∀ i, 0 ≤ i → i < 400 → s 2 i = t i := by rw [hq 2 (by decide)]; exact h2
  have fin : ¬ (s 6 5 < N ∧ t (s 6 5) = 32) → ∀ s', s' = zU s 6 4 (s 6 5) → K s' := fun nc s' e' => by
    have e := sk_stop nc
    have es : s 6 5 = sk t N a := by rw [← hs]; exact e.symm
    refine h s' (by rw [e']; exact zQ_t hq (zQ_U (by decide))) ⟨by rw [e', zU_row (by decide)]; exact s2t, by rw [e', zU_k (by decide)]; exact s3, by rw [e', zU_s]; exact es, by omega⟩ (by rw [e', zU_k (by decide)]; exact es)
  rw [s3]
  refine ⟨fun c => fin (fun z => by omega), fun c => t_T_byteAt s2t (by omega) (by omega) ⟨fun ne => fin (fun z => ne z.2), fun eq => ⟨zRi (by omega) (by omega), fun s17 e17 => ?_⟩⟩⟩
  have v5 : s17 6 5 = s 6 5 + 1 := by rw [e17, zU_s]
  refine ⟨⟨by rw [e17]; exact zQ_t hq (zQ_U (by decide)), by rw [e17, zU_k (by decide)]; exact s3, by omega, by omega, ?_⟩, ?_⟩
  · rw [v5, ← sk_blank c eq]; exact hs
  · dsimp only
    rw [v5]
    omega
theorem t_X_readWord {K : Int → zS → Prop} {w : List Int} (hx : CX t N a σ) (hw : ∀ x ∈ w, ltr x) (hl : w.length ≤ 400) (h1 : WdP t N (sk t N a) w → ∀ τ, zQ [6] σ τ → CX t N (sk t N a + w.length) τ → K 1 τ) (h0 : ¬ WdP t N (sk t N a) w → ∀ τ, zQ [6] σ τ → CX t N (sk t N a) τ → τ 6 5 = sk t N a → K 0 τ) : q_X_readWord w K σ := by
  have sb := sk_b (t := t) hx.2.2.2.2.1
  unfold q_X_readWord q_J_len q_J_charAt
  refine t_X_toNextThing hx (fun τ q hx1 h5 x3 e3 => ?_)
  generalize eb : sk t N a = b at *
  obtain ⟨h2, h3, h4, b0, b1, hN⟩ := id hx1
  rw [h5] at e3
  have fail : ¬ WdP t N b w → K 0 τ := fun n => h0 n τ q hx1 h5
  refine ⟨fun y z s => s = τ ∧ 0 ≤ y ∧ y ≤ w.length ∧ z = b + y ∧ z ≤ N ∧ ∀ i : Int, 0 ≤ i → i < y → t (b + i) = w.getD i.toNat 0, fun y _ _ => (401 - y).toNat, ⟨rfl, by decide, by omega, by omega, by omega, fun i i0 i1 => by omega⟩, ?_⟩
  rintro y z s ⟨rfl, y0, y1, ez, zN, hI⟩ - -
  refine ⟨fun v s' => s' = s ∧ v = y ∧ (z < N → ¬ ltr (t z)), fun v s' hv _ => ?_, ?_⟩
  · obtain ⟨rfl, rfl, hnl⟩ := hv
    refine ⟨fun e => ⟨by rw [h5]; exact zRi (by omega) (by omega), fun s15 e15 => ?_⟩, fun ne => fail (fun hP => ?_)⟩
    · have hP : WdP t N b w := ⟨by omega, fun i i0 i1 => hI i i0 (by omega), fun lt => by rw [← e, ← ez]; exact hnl (by omega)⟩
      refine h1 hP s15 (by rw [e15]; exact zQ_t q (zQ_U (by decide))) ⟨by rw [e15, zU_row (by decide)]; exact h2, by rw [e15, zU_k (by decide)]; exact h3, by rw [e15, zU_s, h5, e], by omega⟩
    · have hp1 := hP.1
      have lt : v < w.length := by omega
      have e1 := hP.2.1 v y0 lt
      refine hnl (by omega) ?_
      rw [ez, e1]
      exact hw _ (getD_mem (by omega))
  · rw [h3]
    refine ⟨fun c => ⟨rfl, rfl, fun q => by omega⟩, fun c => t_T_byteAt h2 (by omega) (by omega) ⟨fun c2 => ⟨rfl, rfl, fun _ q => by have := q.1; omega⟩, fun c2 => t_T_byteAt h2 (by omega) (by omega) ⟨fun c3 => ⟨rfl, rfl, fun _ q => by have := q.2; omega⟩, fun c3 => ⟨fun c4 => fail (fun hP => ?_), fun c4 => t_T_byteAt h2 (by omega) (by omega) ⟨⟨y0, c4⟩, fun eq => ⟨⟨rfl, by omega, by omega, by omega, by omega, fun i i0 i1 => ?_⟩, zRi (by omega) (by omega), zRi (by omega) (by omega), by dsimp only; omega⟩, fun ne => fail (fun hP => ?_)⟩⟩⟩⟩⟩
    · have ey : y = w.length := by omega
      refine hP.2.2 (by omega) ?_
      rw [← ey, ← ez]
      exact ⟨c2, c3⟩
    · by_cases ei : i = y
      · rw [ei, ← ez]; exact eq
      · exact hI i i0 (by omega)
    · exact ne (by rw [ez]; exact hP.2.1 y y0 c4)
theorem t_X_number {K : Int → zS → Prop} {lo hi : Int} (hx : CX t N a σ) (hlo : 0 ≤ lo) (h1 : NOk t N (sk t N a) lo hi → ∀ τ, zQ [6] σ τ → CX t N (sk t N a + nd t N (sk t N a)) τ → τ 6 5 = sk t N a → K (vl t (sk t N a) (nd t N (sk t N a))) τ) (h0 : ¬ NOk t N (sk t N a) lo hi → ∀ τ, zQ [6] σ τ → τ 6 5 = sk t N a → K (-1) τ) : q_X_number lo hi K σ := by
  have sb := sk_b (t := t) hx.2.2.2.2.1
  unfold q_X_number
  refine t_X_toNextThing hx (fun τ q hx1 h5 x3 e3 => ?_)
  generalize eb : sk t N a = b at *
  obtain ⟨h2, h3, h4, b0, b1, hN⟩ := id hx1
  rw [h5] at e3
  have nb := nd_b t N b
  refine ⟨fun y v z s => s = τ ∧ 0 ≤ y ∧ y ≤ 2 ∧ y ≤ nd t N b ∧ v = vl t b y ∧ z = b + y, fun y _ _ _ => (3 - y).toNat, ⟨rfl, by decide, by decide, by omega, rfl, by omega⟩, ?_⟩
  rintro y v z s ⟨rfl, y0, y2, yn, ev, ez⟩ - - -
  have nx := nd_next y0 y2 yn
  have vb := vl_b (t := t) (b := b) y0 yn
  refine ⟨fun d u s' => s' = s ∧ d = y ∧ u = v ∧ nd t N b = y, fun d u s' hj _ _ => ?_, ?_⟩
  · obtain ⟨rfl, rfl, rfl, en⟩ := hj
    refine ⟨by rw [h5]; exact zRi (by omega) (by omega), fun s14 e14 => ?_⟩
    have q14 : zQ [6] σ s14 := by rw [e14]; exact zQ_t q (zQ_U (by decide))
    have f14 : s14 6 5 = b := by rw [e14, zU_k (by decide)]; exact h5
    have bad : ¬ NOk t N b lo hi → K (-1) s14 := fun n => h0 n s14 q14 f14
    refine ⟨fun e => bad (fun z => by have := z.1; omega), fun ne => ⟨fun lt => bad (fun z => by have := z.2.1; rw [en, ← ev] at this; omega), fun ge => ⟨fun le => ?_, fun gt => bad (fun z => by have := z.2.2; rw [en, ← ev] at this; omega)⟩⟩⟩
    have ok : NOk t N b lo hi := ⟨by omega, by rw [en, ← ev]; exact ge, by rw [en, ← ev]; exact le⟩
    have dN := nd_N en (by omega)
    have fin := h1 ok s14 q14 ⟨by rw [e14, zU_row (by decide)]; exact h2, by rw [e14, zU_k (by decide)]; exact h3, by rw [e14, zU_s, h5, en], by omega⟩ f14
    rw [en, ← ev] at fin
    exact fin
  · rw [h3]
    have stop : ¬ Dg t N z → s = s ∧ y = y ∧ v = v ∧ nd t N b = y := fun n => ⟨rfl, rfl, rfl, nx.2 (by rw [← ez]; exact n)⟩
    refine ⟨fun c => stop (fun z => by have := z.1; omega), fun c => t_T_byteAt h2 (by omega) (by omega) ⟨fun c2 => stop (fun z => by have := z.2.1; omega), fun c2 => t_T_byteAt h2 (by omega) (by omega) ⟨fun c3 => stop (fun z => by have := z.2.2; omega), fun c3 => ⟨zRi (by omega) (by omega), fun c4 => t_T_byteAt h2 (by omega) (by omega) (fun x30 e30 => ?_), fun c4 => ?_⟩⟩⟩⟩
    · have n1 := nx.1 (by rw [← ez]; exact ⟨c, c2, c3⟩)
      have vs := vl_s (t := t) (b := b) y0 (by omega)
      have vb1 := vl_b (t := t) (N := N) (b := b) (y := y + 1) (by omega) n1
      refine ⟨⟨rfl, by omega, by omega, n1, ?_, by omega⟩, zRi (by omega) (by omega), zRi (by omega) (by omega), by dsimp only; omega⟩
      rw [vs, e30, ev, ez]
      omega
    · have n1 := nx.1 (by rw [← ez]; exact ⟨c, c2, c3⟩)
      exact h0 (fun z => by have := z.1; omega) s q h5
theorem t_X_readMark {K : Int → zS → Prop} (hx : CX t N a σ) (h1 : (sk t N a < N ∧ t (sk t N a) = 59) → ∀ τ, zQ [6] σ τ → CX t N (sk t N a + 1) τ → K 1 τ) (h0 : ¬ (sk t N a < N ∧ t (sk t N a) = 59) → ∀ τ, zQ [6] σ τ → τ 6 5 = sk t N a → K 0 τ) : q_X_readMark K σ := by
  have sb := sk_b (t := t) hx.2.2.2.2.1
  unfold q_X_readMark
  refine t_X_toNextThing hx (fun τ q hx1 h5 => ?_)
  generalize eb : sk t N a = b at *
  obtain ⟨h2, h3, h4, b0, b1, hN⟩ := id hx1
  rw [h5, h3]
  refine ⟨fun e => h0 (fun z => by omega) τ q h5, fun ne => t_T_byteAt h2 (by omega) (by omega) ⟨fun e => ⟨zRi (by omega) (by omega), fun s11 e11 => ?_⟩, fun n => h0 (fun z => n z.2) τ q h5⟩⟩
  refine h1 ⟨by omega, e⟩ s11 (by rw [e11]; exact zQ_t q (zQ_U (by decide))) ⟨by rw [e11, zU_row (by decide)]; exact h2, by rw [e11, zU_k (by decide)]; exact h3, by rw [e11, zU_s, h5], by omega⟩
theorem t_X_readNumber {K : Int → zS → Prop} {lo hi cell : Int} (hx : CX t N a σ) (hlo : 0 ≤ lo) (hcl : 0 ≤ cell ∧ cell < 499) (h1 : NOk t N (sk t N a) lo hi → ∀ τ, zQ [6, 7] σ τ → CX t N (sk t N a + nd t N (sk t N a)) τ → τ 7 = up (σ 7) cell (vl t (sk t N a) (nd t N (sk t N a))) → K 1 τ) (h0 : ¬ NOk t N (sk t N a) lo hi → ∀ τ, zQ [6] σ τ → τ 6 5 = sk t N a → K 0 τ) : q_X_readNumber lo hi cell K σ := by
  unfold q_X_readNumber
  refine t_X_number hx hlo (fun ok τ q hx1 _ => ?_) (fun n τ q h5 => ⟨fun z => absurd rfl z, fun _ => h0 n τ q h5⟩)
  have vb := vl_b (t := t) (N := N) (b := sk t N a) (y := nd t N (sk t N a)) (nd_b _ _ _).1 (Int.le_refl _)
  refine ⟨fun _ => ⟨hcl, fun s5 e5 => h1 ok s5 (by rw [e5]; exact zQ_t (zQ_m q (by decide)) (zQ_U (by decide))) ?_ ?_⟩, fun e => by omega⟩
  · obtain ⟨x1, x2, x3, x4⟩ := hx1
    exact ⟨by rw [e5, zU_row (by decide)]; exact x1, by rw [e5, zU_row (by decide)]; exact x2, by rw [e5, zU_row (by decide)]; exact x3, x4⟩
  · rw [e5, zU_up, q 7 (by decide)]
end TV
