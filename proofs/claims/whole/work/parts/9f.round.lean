/-! ===== round agrees ===== -/
/-- the stops are told rightly -/
def StP (L t : Int → Int) (n : Int) : Prop := (2 ≤ n ∧ n ≤ 6) ∧ ∀ k, 0 ≤ k → k < n → inP L (t k) ∧ ∀ i, 0 ≤ i → i < k → t i ≠ t k
theorem t_N_takeRound {K : Int → zS → Prop} {σ : zS} {L : Int → Int} {n : Int} (hc : CC L σ) (hn : 0 ≤ L 0 * L 1 ∧ L 0 * L 1 ≤ 81) (ht : ∀ i, 0 ≤ i → i < 400 → 0 ≤ σ 2 i) (h1 : StP L (σ 2) n → ∀ τ, zQ [28, 32] σ τ → τ 28 8 = n → (∀ k, 0 ≤ k → k < n → τ 32 k = σ 2 k) → K 1 τ) (h0 : ¬ StP L (σ 2) n → ∀ τ, zQ [28, 32] σ τ → K 0 τ) : q_N_takeRound n K σ := by
  unfold q_N_takeRound
  refine ⟨fun c => h0 (fun z => by have := z.1; omega) σ (zQ_r _ _), fun c => ⟨fun d => ?_, fun d => h0 (fun z => by have := z.1; omega) σ (zQ_r _ _)⟩⟩
  refine ⟨fun y s => zQ [28, 32] σ s ∧ 0 ≤ y ∧ y ≤ n ∧ (∀ k, 0 ≤ k → k < y → s 32 k = σ 2 k) ∧ ∀ k, 0 ≤ k → k < y → inP L (σ 2 k) ∧ ∀ i, 0 ≤ i → i < k → σ 2 i ≠ σ 2 k, fun y _ => (6 - y).toNat, ⟨zQ_r _ _, by decide, by omega, fun k a b => by omega, fun k a b => by omega⟩, ?_⟩
  rintro y s ⟨hq, y0, y1, hI, hV⟩ -
  refine ⟨fun e s6 e6 => h1 ⟨⟨c, d⟩, fun k k0 k1 => hV k k0 (by omega)⟩ s6 (by rw [e6]; exact zQ_t hq (zQ_U (by decide))) (by rw [e6, zU_s]) (fun k k0 k1 => by rw [e6, zU_row (by decide)]; exact hI k k0 (by omega)), fun e => ?_⟩
  unfold q_T_byteAt
  refine ⟨fun z => by omega, fun _ => ⟨fun z => by omega, fun _ => ⟨by omega, by omega, fun s10 e10 => ?_⟩⟩⟩
  have q10 : zQ [28, 32] σ s10 := by rw [e10]; exact zQ_t hq (zQ_U (by decide))
  have v10 : s10 32 y = σ 2 y := by rw [e10, zU_s, hq 2 (by decide)]
  have w10 : ∀ k, 0 ≤ k → k < y → s10 32 k = σ 2 k := fun k k0 k1 => by
    rw [e10, zU_if, if_neg (by omega)]; exact hI k k0 k1
  refine t_L_places (CC_Q hc q10 (by decide)) hn ?_
  rw [v10]
  refine ⟨fun lt => ?_, fun ge => h0 (fun z => by have := (z.2 y y0 e).1.2; omega) s10 q10⟩
  refine ⟨fun j => 0 ≤ j ∧ j ≤ y ∧ ∀ i, 0 ≤ i → i < j → σ 2 i ≠ σ 2 y, fun j => (6 - j).toNat, ⟨by decide, y0, fun i a b => by omega⟩, ?_⟩
  rintro j ⟨j0, j1, hJ⟩ -
  refine ⟨fun f => ⟨⟨q10, by omega, by omega, fun k k0 k1 => ?_, fun k k0 k1 => ?_⟩, zRi (by omega) (by omega), by dsimp only; omega⟩, fun f => ⟨by omega, fun ne => ⟨⟨by omega, by omega, fun i i0 i1 => ?_⟩, zRi (by omega) (by omega), by dsimp only; omega⟩, fun eq => h0 (fun z => ?_) s10 q10⟩⟩
  · by_cases ek : k = y
    · rw [ek]; exact v10
    · exact w10 k k0 (by omega)
  · by_cases ek : k = y
    · rw [ek]
      exact ⟨⟨ht y y0 (by omega), lt⟩, fun i i0 i1 => hJ i i0 (by omega)⟩
    · exact hV k k0 (by omega)
  · by_cases ei : i = j
    · rw [ei]
      rw [w10 j j0 (by omega)] at ne
      exact ne
    · exact hJ i i0 (by omega)
  · rw [w10 j j0 (by omega)] at eq
    exact (z.2 y y0 e).2 j j0 f eq
theorem t_M_areStops {K : Int → zS → Prop} {σ : zS} {L : Int → Int} (hm : MM L (-1) (-1) σ) (hn : 0 ≤ L 0 * L 1 ∧ L 0 * L 1 ≤ 81) (h1 : StP L (σ 49) (σ 41 11) → ∀ τ, zQ [41, 57] σ τ → (∀ k, k ≠ 24 → k ≠ 11 → τ 41 k = σ 41 k) → τ 41 11 = 0 → τ 41 24 = σ 41 11 → (∀ k, 0 ≤ k → k < σ 41 11 → τ 57 k = σ 49 k) → K 1 τ) (h0 : ¬ StP L (σ 49) (σ 41 11) → ∀ τ, zQ [41, 57] σ τ → (∀ k, k ≠ 24 → k ≠ 11 → τ 41 k = σ 41 k) → τ 41 11 = 0 → K 0 τ) : q_M_areStops K σ := by
  unfold q_M_areStops
  intro s2 e2 s3 e3
  have q3 : zQ [41, 57] σ s3 := by rw [e3, e2]; exact zQ_t (zQ_U (by decide)) (zQ_U (by decide))
  have f3 : ∀ k, k ≠ 24 → k ≠ 11 → s3 41 k = σ 41 k := fun k k1 k2 => by rw [e3, zU_k k2, e2, zU_k k1]
  have a3 : s3 41 11 = 0 := by rw [e3, zU_s]
  have b3 : s3 41 24 = σ 41 11 := by rw [e3, zU_k (by decide), e2, zU_s]
  rw [b3]
  generalize σ 41 11 = n at *
  refine t_M_isIn (fun c d => n1b ?_) (fun c => n0b (h0 (fun z => c z.1) s3 q3 f3 a3))
  refine ⟨fun y s => zQ [57] s3 s ∧ 0 ≤ y ∧ y ≤ n ∧ (∀ k, 0 ≤ k → k < y → s 57 k = σ 49 k) ∧ ∀ k, 0 ≤ k → k < y → inP L (σ 49 k) ∧ ∀ i, 0 ≤ i → i < k → σ 49 i ≠ σ 49 k, fun y _ => (6 - y).toNat, ⟨zQ_r _ _, by decide, by omega, fun k a b => by omega, fun k a b => by omega⟩, ?_⟩
  rintro y s ⟨hq, y0, y1, hI, hV⟩ -
  have s41 : s 41 = s3 41 := hq 41 (by decide)
  rw [s41, b3]
  have mk : ∀ t, zQ [57] s3 t → zQ [41, 57] σ t ∧ (∀ k, k ≠ 24 → k ≠ 11 → t 41 k = σ 41 k) ∧ t 41 11 = 0 ∧ t 41 24 = n := fun t qt => ⟨zQ_t q3 (zQ_m qt (by decide)), fun k k1 k2 => by rw [qt 41 (by decide)]; exact f3 k k1 k2, by rw [qt 41 (by decide)]; exact a3, by rw [qt 41 (by decide)]; exact b3⟩
  refine ⟨fun e => ?_, fun e => ⟨by omega, by omega, fun s15 e15 => ?_⟩⟩
  · obtain ⟨m1, m2, m3, m4⟩ := mk s hq
    exact h1 ⟨⟨c, d⟩, fun k k0 k1 => hV k k0 (by omega)⟩ s m1 m2 m3 m4 (fun k k0 k1 => hI k k0 (by omega))
  · have q15 : zQ [57] s3 s15 := by rw [e15]; exact zQ_t hq (zQ_U (by decide))
    obtain ⟨m1, m2, m3, m4⟩ := mk s15 q15
    have v15 : s15 57 y = σ 49 y := by rw [e15, zU_s, hq 49 (by decide), q3 49 (by decide)]
    have w15 : ∀ k, 0 ≤ k → k < y → s15 57 k = σ 49 k := fun k k0 k1 => by
      rw [e15, zU_if, if_neg (by omega)]; exact hI k k0 k1
    have hm15 : MM L (-1) (-1) s15 := by
      refine ⟨by rw [m1 42 (by decide)]; exact hm.1, fun g g0 g1 => ?_, by rw [m2 28 (by decide) (by decide)]; exact hm.2.2.1, by rw [m2 29 (by decide) (by decide)]; exact hm.2.2.2⟩
      rw [m1 47 (by decide), m1 48 (by decide)]
      exact hm.2.1 g g0 g1
    rw [v15]
    refine t_M_isPlace hm15 hn (fun ip => n1b ?_) (fun ip => n0b (h0 (fun z => ip (z.2 y y0 e).1) s15 m1 m2 m3))
    refine ⟨fun j => 0 ≤ j ∧ j ≤ y ∧ ∀ i, 0 ≤ i → i < j → σ 49 i ≠ σ 49 y, fun j => (6 - j).toNat, ⟨by decide, y0, fun i a b => by omega⟩, ?_⟩
    rintro j ⟨j0, j1, hJ⟩ -
    refine ⟨fun f => ⟨⟨q15, by omega, by omega, fun k k0 k1 => ?_, fun k k0 k1 => ?_⟩, zRi (by omega) (by omega), by dsimp only; omega⟩, fun f => ⟨by omega, fun ne => ⟨⟨by omega, by omega, fun i i0 i1 => ?_⟩, zRi (by omega) (by omega), by dsimp only; omega⟩, fun eq => h0 (fun z => ?_) s15 m1 m2 m3⟩⟩
    · by_cases ek : k = y
      · rw [ek]; exact v15
      · exact w15 k k0 (by omega)
    · by_cases ek : k = y
      · rw [ek]
        exact ⟨ip, fun i i0 i1 => hJ i i0 (by omega)⟩
      · exact hV k k0 (by omega)
    · by_cases ei : i = j
      · rw [ei]
        rw [w15 j j0 (by omega), v15] at ne
        exact ne
      · exact hJ i i0 (by omega)
    · rw [w15 j j0 (by omega), v15] at eq
      exact (z.2 y y0 e).2 j j0 f eq
theorem ls_pl {r c w B : Int} (hr : r ≤ 1000000000) (c0 : 0 ≤ c) (w0 : 0 ≤ w) (hcw : c + w < 1000000000) : lsr r (pl (c + w) B) = lsr r (pl c (pl w B)) := by
  have e : pl w B = if B < 1000000000 then w + B else 1000000000 := by
    unfold pl
    by_cases q : B < 1000000000
    · rw [if_pos ⟨by omega, q⟩, if_pos q]
    · rw [if_neg (fun z => q z.2), if_neg q]
  rw [e]
  unfold lsr pl
  by_cases q : B < 1000000000
  · rw [if_pos q]
    repeat' split
    all_goals omega
  · rw [if_neg q]
    repeat' split
    all_goals omega
theorem ls_ls {r c g x : Int} (hr : r ≤ 1000000000) (c0 : 0 ≤ c) (hc : c < 1000000000) : lsr (lsr r (pl c g)) (pl c x) = lsr r (pl c (lsr g x)) := by
  have e : ∀ y, pl c y = if y < 1000000000 then c + y else 1000000000 := fun y => by
    unfold pl
    by_cases q : y < 1000000000
    · rw [if_pos ⟨hc, q⟩, if_pos q]
    · rw [if_neg (fun z => q z.2), if_neg q]
  rw [e, e, e]
  unfold lsr
  repeat' split
  all_goals omega
theorem ls_r {r c : Int} (hr : r ≤ 1000000000) : lsr r (pl c 1000000000) = r := by
  unfold lsr pl
  rw [if_neg (show ¬ (c < 1000000000 ∧ (1000000000 : Int) < 1000000000) by omega)]
  split <;> omega
theorem t_M_goesRound {W : Int → Int → Int} {n : Int} (hn : 2 ≤ n ∧ n ≤ 6) (hW : WB6 W n) (hWb : ∀ a b, 0 ≤ a → a < n → 0 ≤ b → b < n → W a b = 1000000000 ∨ W a b ≤ 650592) : ∀ (d : Nat) {K : zS → Prop} {σ : zS} {last s cost : Int}, pcn s + d = 7 → (0 ≤ s ∧ s < p2 (n - 1)) → (0 ≤ last ∧ last < n) → σ 41 24 = n → (∀ a b, 0 ≤ a → a < n → 0 ≤ b → b < n → σ 58 (6 * a + b) = W a b) → (0 ≤ cost ∧ cost ≤ 700000 * (7 - d)) → (0 ≤ σ 41 26 ∧ σ 41 26 ≤ 1000000000) → (∀ τ, zQ [41] σ τ → (∀ k, k ≠ 26 → τ 41 k = σ 41 k) → τ 41 26 = lsr (σ 41 26) (pl cost (Bk W n d last s)) → K τ) → q_M_goesRound d last (2 * s + 1) cost K σ
  | 0, K, σ, last, s, cost, hf, _, _, _, _, _, _, _ => by
    have := pcn_b s
    omega
  | d + 1, K, σ, last, s, cost, hf, h0, hl, h24, h58, hc, hr, h => by
    have b := bn hn
    unfold q_M_goesRound
    rw [h24, b.1]
    refine ⟨zRi (by omega) (by omega), fun ne => ?_, fun eq => ⟨by omega, fun x23 e23 => ?_⟩⟩
    · have hf' : s ≠ p2 (n - 1) - 1 := fun z => ne (by omega)
      have eB : Bk W n (d + 1) last s = gm (fun k => if hs s (k - 1) = 0 then pl (W last k) (Bk W n d k (s + p2 (k - 1))) else 1000000000) 1 (n - 1).toNat := if_neg hf'
      rw [eB] at h
      clear eB
      generalize ef : (fun k => if hs s (k - 1) = 0 then pl (W last k) (Bk W n d k (s + p2 (k - 1))) else 1000000000) = f at h
      have fe : ∀ k, f k = if hs s (k - 1) = 0 then pl (W last k) (Bk W n d k (s + p2 (k - 1))) else 1000000000 := fun k => by rw [← ef]
      refine ⟨fun y t => zQ [41] σ t ∧ (∀ k, k ≠ 26 → t 41 k = σ 41 k) ∧ 1 ≤ y ∧ y ≤ n ∧ t 41 26 = lsr (σ 41 26) (pl cost (gm f 1 (y - 1).toNat)), fun y _ => (6 - y).toNat, ⟨zQ_r _ _, fun _ _ => rfl, by decide, by omega, (ls_r hr.2).symm⟩, ?_⟩
      rintro y t ⟨hq, f41, y0, y1, ht⟩ -
      have t24 : t 41 24 = n := by rw [f41 24 (by decide)]; exact h24
      rw [t24]
      have gl := gm_le f 1 (y - 1).toNat
      have gs : gm f 1 (y + 1 - 1).toNat = lsr (gm f 1 (y - 1).toNat) (f y) := gm_s f 1 y0
      have tb : 0 ≤ t 41 26 ∧ t 41 26 ≤ 1000000000 := by
        have fn : 0 ≤ gm f 1 (y - 1).toNat := by
          rcases (gm_min f 1 (y - 1).toNat).2 with z | ⟨i, hi, z⟩
          · omega
          · rw [z, fe]
            by_cases c2 : hs s (1 + (i : Int) - 1) = 0
            · rw [if_pos c2]
              have a := hW last (1 + i) hl.1 hl.2 (by omega) (by omega)
              have b := (Bk_b hW hn d (1 + i) (s + p2 (1 + (i : Int) - 1)) (by omega) (by omega)).1
              unfold pl
              split <;> omega
            · rw [if_neg c2]
              decide
        rw [ht]
        unfold lsr pl
        split <;> split <;> omega
      refine ⟨fun c => h t hq f41 (by rw [ht, show y = n by omega]), fun c => ⟨by omega, fun x10 e10 => ?_⟩⟩
      have wl := hW last y hl.1 hl.2 (by omega) c
      have wb := hWb last y hl.1 hl.2 (by omega) c
      have ex : x10 = W last y := by rw [e10, hq 58 (by decide)]; exact h58 last y hl.1 hl.2 (by omega) c
      have bb := bt (s := s) (k := y - 1) (by omega) (by omega)
      have bz := bb.2.2.2.1
      rw [show y - 1 + 1 = y by omega] at bz
      rw [bz]
      have same : f y = 1000000000 → (zQ [41] σ t ∧ (∀ k, k ≠ 26 → t 41 k = σ 41 k) ∧ 1 ≤ y + 1 ∧ y + 1 ≤ n ∧ t 41 26 = lsr (σ 41 26) (pl cost (gm f 1 (y + 1 - 1).toNat))) ∧ zR (y + 1) ∧ (6 - (y + 1)).toNat < (6 - y).toNat := fun e => by
        refine ⟨⟨hq, f41, by omega, by omega, ?_⟩, zRi (by omega) (by omega), by omega⟩
        rw [gs, e, show lsr (gm f 1 (y - 1).toNat) 1000000000 = gm f 1 (y - 1).toNat by unfold lsr; split <;> omega]
        exact ht
      refine ⟨fun nz => same (by rw [fe, if_neg nz]), fun z => ⟨fun ge => same (by rw [fe, if_pos z]; unfold pl; rw [if_neg (by omega)]), fun lt => ⟨zRi (by omega) (by omega), ?_⟩⟩⟩
      have bo := bb.2.2.2.2.1 z
      rw [show y - 1 + 1 = y by omega] at bo
      rw [bo]
      have so := bj (j := n - 1) (s := s) (k := y - 1) (by omega) (by omega) (by omega) h0.2 (by omega) z
      have pb := bb.2.2.2.2.2.2.1
      have pq := (bb.2.2.2.2.2.1 z).1
      refine t_M_goesRound hn hW hWb d (by omega) ⟨by omega, so⟩ ⟨by omega, c⟩ t24 (fun a b a0 a1 b0 b1 => by rw [hq 58 (by decide)]; exact h58 a b a0 a1 b0 b1) (by omega) tb (fun τ q g41 g26 => ⟨⟨zQ_t hq q, fun k hk => by rw [g41 k hk]; exact f41 k hk, by omega, by omega, ?_⟩, zRi (by omega) (by omega), by dsimp only; omega⟩)
      rw [g26, ex, ls_pl tb.2 hc.1 wl.1 (by omega), ht, gs, fe, if_pos z]
      exact ls_ls hr.2 hc.1 (by omega)
    · have es : s = p2 (n - 1) - 1 := by omega
      have eB : Bk W n (d + 1) last s = W last 0 := if_pos es
      have ex : x23 = W last 0 := by
        have := h58 last 0 hl.1 hl.2 (by omega) (by omega)
        rw [show 6 * last + 0 = 6 * last by omega] at this
        rw [e23]; exact this
      have wl := hW last 0 hl.1 hl.2 (by omega) (by omega)
      have wb := hWb last 0 hl.1 hl.2 (by omega) (by omega)
      rw [eB] at h
      refine ⟨fun ge => h σ (zQ_r _ _) (fun _ _ => rfl) ?_, fun lt => ⟨zRi (by omega) (by omega), t_M_lesser (fun s29 e29 => h s29 (by rw [e29]; exact zQ_U (by decide)) (fun k hk => by rw [e29, zU_k hk]) ?_)⟩⟩
      · rw [show W last 0 = 1000000000 by omega, ls_r hr.2]
      · have ep : pl cost (W last 0) = cost + W last 0 := if_pos ⟨by omega, by omega⟩
        rw [e29, zU_s, ex, ep]
        rfl
