/-! ===== round: the class's least ===== -/
section TS
variable {W : Int → Int → Int} {n : Int}
theorem pl_step {O x w B C : Int} (hO : O ≤ 1000000000) (h1 : O ≤ pl x B) (x0 : 0 ≤ x) (hx : x < 1000000000) (hw : w < 1000000000) (h2 : B ≤ pl w C) : O ≤ pl (x + w) C := by
  unfold pl at *
  split at h1 <;> split at h2 <;> split <;> omega
theorem pl_wit {O x w B C x' : Int} (hO : O < 1000000000) (h1 : pl x B ≤ O) (h2 : B = pl w C) (hx' : x < 1000000000 → w < 1000000000 → x' ≤ x + w) (c0 : 0 ≤ C) : pl x' C ≤ O := by
  unfold pl at *
  split at h1
  · split at h2
    · have := hx' (by omega) (by omega)
      rw [if_pos (by omega)]
      omega
    · omega
  · omega
theorem pl_mono {x x' B : Int} (h : x' ≤ x) (hb : pl x B < 1000000000) : pl x' B ≤ pl x B := by
  unfold pl at *
  split at hb
  · rw [if_pos (by omega)]
    omega
  · omega
theorem Bk_b (hW : WB6 W n) (hn : 2 ≤ n ∧ n ≤ 6) : ∀ (d : Nat) (last s : Int), 0 ≤ last → last < n → 0 ≤ Bk W n d last s ∧ Bk W n d last s ≤ 1000000000
  | 0, _, _, _, _ => ⟨by show (0 : Int) ≤ 1000000000; decide, by show (1000000000 : Int) ≤ 1000000000; decide⟩
  | d + 1, last, s, l0, l1 => by
    by_cases c : s = p2 (n - 1) - 1
    · have e : Bk W n (d + 1) last s = W last 0 := if_pos c
      rw [e]
      have := hW last 0 l0 l1 (by omega) (by omega)
      omega
    · have e : Bk W n (d + 1) last s = gm (fun k => if hs s (k - 1) = 0 then pl (W last k) (Bk W n d k (s + p2 (k - 1))) else 1000000000) 1 (n - 1).toNat := if_neg c
      rw [e]
      refine ⟨?_, gm_le _ _ _⟩
      rcases (gm_min (fun k => if hs s (k - 1) = 0 then pl (W last k) (Bk W n d k (s + p2 (k - 1))) else 1000000000) 1 (n - 1).toNat).2 with z | ⟨i, hi, z⟩
      · omega
      · rw [z]
        by_cases c2 : hs s (1 + (i : Int) - 1) = 0
        · rw [if_pos c2]
          have a := hW last (1 + i) l0 l1 (by omega) (by omega)
          have b := (Bk_b hW hn d (1 + i) (s + p2 (1 + (i : Int) - 1)) (by omega) (by omega)).1
          unfold pl
          split <;> omega
        · rw [if_neg c2]
          decide
theorem BkS_b (hW : WB6 W n) (hn : 2 ≤ n ∧ n ≤ 6) {last s : Int} (l0 : 0 ≤ last) (l1 : last < n) : 0 ≤ BkS W n last s ∧ BkS W n last s ≤ 1000000000 := Bk_b hW hn _ _ _ l0 l1
def TA (W : Int → Int → Int) (n O : Int) (t : Int → Int) : Prop := (∀ i, 0 ≤ i → i < 192 → 0 ≤ t i ∧ t i ≤ 1000000000) ∧ ∀ s last, 0 ≤ s → s < p2 (n - 1) → 1 ≤ last → last < n → (t (s * 6 + last) < 1000000000 → hs s (last - 1) ≠ 0) ∧ O ≤ pl (t (s * 6 + last)) (BkS W n last s)
def TB (W : Int → Int → Int) (n O y z : Int) (t : Int → Int) : Prop := O < 1000000000 → ∃ s last, (0 ≤ s ∧ s < p2 (n - 1)) ∧ (1 ≤ last ∧ last < n) ∧ (s = p2 (n - 1) - 1 ∨ y < s ∨ (s = y ∧ z ≤ last)) ∧ pl (t (s * 6 + last)) (BkS W n last s) ≤ O
theorem TA_ext {O set_ last : Int} {t t' : Int → Int} (hn : 2 ≤ n ∧ n ≤ 6) (hW : WB6 W n) (hO : O ≤ 1000000000) (h0 : 0 ≤ set_ ∧ set_ < p2 (n - 1)) (hl : 1 ≤ last ∧ last < n) (hA : TA W n O t) (mono : ∀ i, t' i ≤ t i) (org : ∀ i, t' i = t i ∨ ∃ k, (0 ≤ k ∧ k < n - 1) ∧ hs set_ k = 0 ∧ t (set_ * 6 + last) < 1000000000 ∧ W last (k + 1) < 1000000000 ∧ i = (set_ + p2 k) * 6 + (k + 1) ∧ t' i = t (set_ * 6 + last) + W last (k + 1)) : TA W n O t' := by
  have b := bn hn
  have x0 := hA.1 (set_ * 6 + last) (by omega) (by omega)
  refine ⟨fun i i0 i1 => ?_, fun s l s0 s1 l0 l1 => ?_⟩
  · have a := hA.1 i i0 i1
    have m := mono i
    rcases org i with z | ⟨k, hk, hz, hx, hw, e, z⟩
    · omega
    · have w := hW last (k + 1) (by omega) hl.2 (by omega) (by omega)
      omega
  · rcases org (s * 6 + l) with z | ⟨k, hk, hz, hx, hw, e, z⟩
    · rw [z]; exact hA.2 s l s0 s1 l0 l1
    · have bb := bt (s := set_) (k := k) (by omega) (by omega)
      have so := bj (j := n - 1) (s := set_) (k := k) (by omega) (by omega) (by omega) h0.2 hk.2 hz
      have pb := bb.2.2.2.2.2.2.1
      have es : s = set_ + p2 k := by omega
      have el : l = k + 1 := by omega
      rw [z, es, el, show k + 1 - 1 = k by omega]
      refine ⟨fun _ => (bb.2.2.2.2.2.1 hz).2, ?_⟩
      exact pl_step hO (hA.2 set_ last h0.1 h0.2 hl.1 hl.2).2 x0.1 hx hw (BkS_le (by omega) hn (by omega) hk hz)
theorem TB_ext {O set_ last : Int} {t t' : Int → Int} (hn : 2 ≤ n ∧ n ≤ 6) (hW : WB6 W n) (h0 : 0 ≤ set_ ∧ set_ < p2 (n - 1)) (hl : 1 ≤ last ∧ last < n) (hB : TB W n O set_ last t) (mono : ∀ i, t' i ≤ t i) (dn : ∀ k, 0 ≤ k → k < n - 1 → hs set_ k = 0 → t (set_ * 6 + last) < 1000000000 → W last (k + 1) < 1000000000 → t' ((set_ + p2 k) * 6 + (k + 1)) ≤ t (set_ * 6 + last) + W last (k + 1)) : TB W n O set_ (last + 1) t' := by
  have b := bn hn
  intro hO
  obtain ⟨s, l, hs0, hl0, hp, hv⟩ := hB hO
  by_cases c : s = set_ ∧ l = last ∧ s ≠ p2 (n - 1) - 1
  · obtain ⟨e1, e2, e3⟩ := c
    rw [e1, e2] at hv
    rw [e1] at e3
    have lt : BkS W n last set_ < 1000000000 := by
      unfold pl at hv
      split at hv <;> omega
    obtain ⟨k, hk, hz, ek⟩ := BkS_ex (by omega) hn e3 lt
    have bb := bt (s := set_) (k := k) (by omega) (by omega)
    have so := bj (j := n - 1) (s := set_) (k := k) (by omega) (by omega) (by omega) h0.2 hk.2 hz
    have pb := bb.2.2.2.2.2.2.1
    exact ⟨set_ + p2 k, k + 1, by omega, by omega, Or.inr (Or.inl (by omega)), pl_wit hO hv ek (fun hx hw => dn k hk.1 hk.2 hz hx hw) (BkS_b hW hn (by omega) (by omega)).1⟩
  · refine ⟨s, l, hs0, hl0, by omega, ?_⟩
    have := pl_mono (mono (s * 6 + l)) (B := BkS W n l s) (by omega)
    omega
theorem TB_next {O y : Int} {t : Int → Int} (h : TB W n O y n t) : TB W n O (y + 1) 1 t := by
  intro hO
  obtain ⟨s, l, hs0, hl0, hp, hv⟩ := h hO
  exact ⟨s, l, hs0, hl0, by omega, hv⟩
end TS
theorem t_N_findLegs {K : zS → Prop} {σ : zS} {L S : Int → Int} {n : Int} (hc : CC L σ) (hL : GW L) (hW : RWs L) (hn : 2 ≤ n ∧ n ≤ 6) (h28 : σ 28 8 = n) (h32 : ∀ k, 0 ≤ k → k < n → σ 32 k = S k) (hS : ∀ k, 0 ≤ k → k < n → inP L (S k)) (h : ∀ τ, zQ [12, 13, 15, 16, 17, 18, 19, 20, 21, 22, 23, 24, 33] σ τ → (∀ a b, 0 ≤ a → a < n → 0 ≤ b → b < n → τ 33 (a * 6 + b) = Co0 L (S a) (S b)) → K τ) : q_N_findLegs K σ := by
  unfold q_N_findLegs
  refine ⟨fun a s => zQ [12, 13, 15, 16, 17, 18, 19, 20, 21, 22, 23, 24, 33] σ s ∧ 0 ≤ a ∧ a ≤ n ∧ ∀ a' b, 0 ≤ a' → a' < a → 0 ≤ b → b < n → s 33 (a' * 6 + b) = Co0 L (S a') (S b), fun a _ => (6 - a).toNat, ⟨zQ_r _ _, by decide, by omega, fun a' b x y => by omega⟩, ?_⟩
  rintro a s ⟨hq, a0, a1, hI⟩ -
  have s28 : s 28 8 = n := by rw [hq 28 (by decide)]; exact h28
  rw [s28]
  refine ⟨fun c => h s hq (fun a' b x y => hI a' b x (by omega)), fun c => ⟨by omega, ?_⟩⟩
  have e32 : s 32 a = S a := by rw [hq 32 (by decide)]; exact h32 a a0 c
  rw [e32]
  refine t_W_searchAll (CC_Q hc hq (by decide)) hL hW (hS a a0 c) (fun τ q hSa => ?_)
  have q1 : zQ [12, 13, 15, 16, 17, 18, 19, 20, 21, 22, 23, 24, 33] σ τ := zQ_t hq (zQ_m q (by decide))
  refine ⟨fun b t => zQ [33] τ t ∧ 0 ≤ b ∧ b ≤ n ∧ ∀ a' b', 0 ≤ a' → (a' < a ∨ (a' = a ∧ b' < b)) → 0 ≤ b' → b' < n → t 33 (a' * 6 + b') = Co0 L (S a') (S b'), fun b _ => (6 - b).toNat, ⟨zQ_r _ _, by decide, by omega, fun a' b' x y z w => by rw [q 33 (by decide)]; exact hI a' b' x (by omega) z w⟩, ?_⟩
  rintro b t ⟨qt, b0, b1, hJ⟩ -
  have q2 : zQ [12, 13, 15, 16, 17, 18, 19, 20, 21, 22, 23, 24, 33] σ t := zQ_t q1 (zQ_m qt (by decide))
  have t28 : t 28 8 = n := by rw [q2 28 (by decide)]; exact h28
  rw [t28]
  refine ⟨fun d => ⟨⟨q2, by omega, by omega, fun a' b' x y z w => hJ a' b' x (by omega) z w⟩, zRi (by omega) (by omega), by dsimp only; omega⟩, fun d => ⟨by omega, ?_⟩⟩
  have f1 : t 32 b = S b := by rw [q2 32 (by decide)]; exact h32 b b0 d
  have f2 : t 32 a = S a := by rw [q2 32 (by decide)]; exact h32 a a0 c
  rw [f1, f2]
  refine t_W_costOf hL (hS a a0 c) (hS b b0 d) (SaP_Q hSa qt (by decide)) (fun v ev hb => ?_)
  have nx : ∀ w s1, s1 = zU t 33 (a * 6 + b) w → w = Co0 L (S a) (S b) → (zQ [33] τ s1 ∧ 0 ≤ b + 1 ∧ b + 1 ≤ n ∧ ∀ a' b', 0 ≤ a' → (a' < a ∨ (a' = a ∧ b' < b + 1)) → 0 ≤ b' → b' < n → s1 33 (a' * 6 + b') = Co0 L (S a') (S b')) ∧ zR (b + 1) ∧ (6 - (b + 1)).toNat < (6 - b).toNat := by
    intro w s1 e1 ew
    refine ⟨⟨by rw [e1]; exact zQ_t qt (zQ_U (by decide)), by omega, by omega, fun a' b' x y z u => ?_⟩, zRi (by omega) (by omega), by omega⟩
    rw [e1, zU_if]
    by_cases e : a' * 6 + b' = a * 6 + b
    · rw [if_pos e, ew, show a' = a by omega, show b' = b by omega]
    · rw [if_neg e]
      exact hJ a' b' x (by omega) z u
  have co : Co0 L (S a) (S b) = if v = -1 then 1000000000 else v := by
    unfold Co0
    by_cases e : S b = S a
    · rw [if_pos e] at ev ⊢
      rw [ev, if_neg (by decide)]
    · rw [if_neg e] at ev ⊢
      have hb' := hb e
      by_cases z : CoF L (-1) (-1) (S a) (S b) = 1000000000
      · rw [if_pos z] at ev
        rw [ev, if_pos rfl, z]
      · rw [if_neg z] at ev
        rw [ev, if_neg (by omega)]
  refine ⟨fun ne => ⟨by omega, fun s1 e1 => nx _ s1 e1 (by rw [co, if_neg ne])⟩, fun e => ⟨by omega, fun s1 e1 => nx _ s1 e1 (by rw [co, if_pos e])⟩⟩
theorem t_N_leastRound {K : Int → zS → Prop} {σ : zS} {L S : Int → Int} {n : Int} (hc : CC L σ) (hL : GW L) (hR : RWs L) (hn : 2 ≤ n ∧ n ≤ 6) (h28 : σ 28 8 = n) (h32 : ∀ k, 0 ≤ k → k < n → σ 32 k = S k) (hS : ∀ k, 0 ≤ k → k < n → inP L (S k)) (hU : ∀ a b, 0 ≤ a → a < n → 0 ≤ b → b < n → a ≠ b → S a ≠ S b) (hW : WB6 (fun a b => CoF L (-1) (-1) (S a) (S b)) n) (h : ∀ τ, zQ [12, 13, 15, 16, 17, 18, 19, 20, 21, 22, 23, 24, 33, 34] σ τ → K (if BkS (fun a b => CoF L (-1) (-1) (S a) (S b)) n 0 0 = 1000000000 then -1 else BkS (fun a b => CoF L (-1) (-1) (S a) (S b)) n 0 0) τ) : q_N_leastRound K σ := by
  have b := bn hn
  unfold q_N_leastRound
  refine t_N_findLegs hc hL hR hn h28 h32 hS (fun τ1 q1 h33 x3 e3 => t_J_fill2 (M := 192) rfl ?_)
  have h33' : ∀ a b, 0 ≤ a → a < n → 0 ≤ b → b < n → a ≠ b → τ1 33 (a * 6 + b) = CoF L (-1) (-1) (S a) (S b) := fun a b a0 a1 b0 b1 ne => by
    rw [h33 a b a0 a1 b0 b1]
    unfold Co0
    rw [if_neg (hU b a b0 b1 a0 a1 (Ne.symm ne))]
  have t28 : τ1 28 8 = n := by rw [q1 28 (by decide)]; exact h28
  have x3e : x3 = p2 (n - 1) := by rw [e3, t28]; exact b.2.1
  obtain ⟨W, hWe⟩ : ∃ W : Int → Int → Int, W = fun a b => CoF L (-1) (-1) (S a) (S b) := ⟨_, rfl⟩
  rw [← hWe] at hW h
  have h33'' : ∀ a b, 0 ≤ a → a < n → 0 ≤ b → b < n → a ≠ b → τ1 33 (a * 6 + b) = W a b := fun a b a0 a1 b0 b1 ne => by rw [hWe]; exact h33' a b a0 a1 b0 b1 ne
  have O1 : BkS W n 0 0 ≤ 1000000000 := (BkS_b hW hn (by omega) (by omega)).2
  have O0 : 0 ≤ BkS W n 0 0 := (BkS_b hW hn (by omega) (by omega)).1
  -- the first stop of each tour
  refine ⟨fun y s => zQ [34] τ1 s ∧ 1 ≤ y ∧ y ≤ n ∧ ∀ i, 0 ≤ i → i < 192 → (s 34 i = 1000000000 ∧ ∀ k, 1 ≤ k → k < y → i ≠ p2 (k - 1) * 6 + k) ∨ ∃ k, (1 ≤ k ∧ k < y) ∧ i = p2 (k - 1) * 6 + k ∧ s 34 i = W 0 k, fun y _ => (6 - y).toNat, ⟨zQ_F (by decide), by decide, by omega, fun i i0 i1 => Or.inl ⟨?_, fun k a c => by omega⟩⟩, ?_⟩
  · unfold zFill
    rw [zW_s, if_pos ⟨i0, i1⟩]
  rintro y s ⟨hq, y0, y1, hI⟩ -
  have s28 : s 28 8 = n := by rw [hq 28 (by decide)]; exact t28
  have s33 : ∀ k, 1 ≤ k → k < n → s 33 k = W 0 k := fun k k0 k1 => by
    have := h33'' 0 k (by omega) (by omega) (by omega) k1 (by omega)
    rw [show 0 * 6 + k = k by omega] at this
    rw [hq 33 (by decide)]
    exact this
  rw [s28]
  refine ⟨fun c => ?_, fun c => ?_⟩
  · have yn : y = n := by omega
    have hA : TA W n (BkS W n 0 0) (s 34) := by
      refine ⟨fun i i0 i1 => ?_, fun z l z0 z1 l0 l1 => ?_⟩
      · rcases hI i i0 i1 with ⟨e, -⟩ | ⟨k, hk, -, e⟩
        · omega
        · have w := hW 0 k (by omega) (by omega) (by omega) (by omega)
          omega
      · rcases hI (z * 6 + l) (by omega) (by omega) with ⟨e, -⟩ | ⟨k, hk, ei, e⟩
        · refine ⟨fun q => by omega, ?_⟩
          rw [e]
          unfold pl
          rw [if_neg (by omega)]
          exact O1
        · have bb := bt (s := 0) (k := k - 1) (by decide) (by omega)
          have hz := bb.2.2.2.2.2.2.2
          have ez : z = p2 (k - 1) := by omega
          have el : l = k := by omega
          have nf := BkS_le (W := W) (n := n) (s := 0) (k := k - 1) (last := 0) (by decide) hn (by omega) (by omega) hz
          rw [show (0 : Int) + p2 (k - 1) = p2 (k - 1) by omega, show k - 1 + 1 = k by omega] at nf
          rw [e, ez, el]
          have h2 := (bb.2.2.2.2.2.1 hz).2
          rw [show (0 : Int) + p2 (k - 1) = p2 (k - 1) by omega] at h2
          exact ⟨fun _ => h2, nf⟩
    have hB : TB W n (BkS W n 0 0) 1 1 (s 34) := by
      intro hO
      obtain ⟨k, hk, hz, ek⟩ := BkS_ex (W := W) (n := n) (s := 0) (last := 0) (by decide) hn (by omega) hO
      have bb := bt (s := 0) (k := k) (by decide) (by omega)
      have pb := bb.2.2.2.2.2.2.1
      have so := bj (j := n - 1) (s := 0) (k := k) (by omega) (by decide) (by omega) (by omega) hk.2 hz
      rw [show (0 : Int) + p2 k = p2 k by omega] at ek so
      refine ⟨p2 k, k + 1, by omega, by omega, by omega, ?_⟩
      rcases hI (p2 k * 6 + (k + 1)) (by omega) (by omega) with ⟨-, q⟩ | ⟨k', hk', ei, e⟩
      · exact absurd (by rw [show k + 1 - 1 = k by omega]) (q (k + 1) (by omega) (by omega))
      · have : k' = k + 1 := by omega
        rw [e, this, ek]
        exact Int.le_refl _
    have s33' : ∀ a b, 0 ≤ a → a < n → 0 ≤ b → b < n → a ≠ b → s 33 (a * 6 + b) = W a b := fun a b a0 a1 b0 b1 ne => by rw [hq 33 (by decide)]; exact h33'' a b a0 a1 b0 b1 ne
    rw [x3e]
    refine ⟨fun y t => zQ [34] s t ∧ 1 ≤ y ∧ y ≤ p2 (n - 1) ∧ TA W n (BkS W n 0 0) (t 34) ∧ TB W n (BkS W n 0 0) y 1 (t 34), fun y _ => (32 - y).toNat, ⟨zQ_r _ _, by decide, by omega, hA, hB⟩, ?_⟩
    rintro y2 t ⟨qt, z0, z1, hA, hB⟩ -
    have u28 : t 28 8 = n := by rw [qt 28 (by decide)]; exact s28
    refine ⟨fun d => ?_, fun d => ?_⟩
    · -- the end
      have qq : zQ [12, 13, 15, 16, 17, 18, 19, 20, 21, 22, 23, 24, 33, 34] σ t := zQ_t (zQ_m q1 (by decide)) (zQ_t (zQ_m hq (by decide)) (zQ_m qt (by decide)))
      refine ⟨fun m k => 1 ≤ k ∧ k ≤ n ∧ m ≤ 1000000000 ∧ BkS W n 0 0 ≤ m ∧ ∀ k', 1 ≤ k' → k' < k → m ≤ t 34 ((p2 (n - 1) - 1) * 6 + k') + W 0 k', fun _ k => (6 - k).toNat, ⟨by decide, by omega, by decide, O1, fun k' a c => by omega⟩, ?_⟩
      rintro m k ⟨k0, k1, m1, mO, hM⟩ - -
      rw [u28]
      have ful : ∀ l, 1 ≤ l → l < n → BkS W n l (p2 (n - 1) - 1) = W 0 l := fun l l0 l1 => by
        rw [BkS_full hn]
        exact (hW l 0 (by omega) l1 (by omega) (by omega)).2.2
      refine ⟨fun e => ?_, fun e => ?_⟩
      · have fin := h t qq
        have key : BkS W n 0 0 < 1000000000 → m = BkS W n 0 0 := fun hO => by
          obtain ⟨s', l, hs0, hl0, hp, hv⟩ := hB hO
          have es : s' = p2 (n - 1) - 1 := by omega
          rw [es, ful l hl0.1 hl0.2] at hv
          have := hM l hl0.1 (by omega)
          unfold pl at hv
          split at hv <;> omega
        refine ⟨fun lt => ?_, fun ge => ?_⟩
        · have := key (by omega)
          rw [if_neg (by omega), ← this] at fin
          exact fin
        · have : BkS W n 0 0 = 1000000000 := by
            by_cases q : BkS W n 0 0 < 1000000000
            · have := key q; omega
            · omega
          rw [if_pos this] at fin
          exact fin
      · have w := hW 0 k (by omega) (by omega) (by omega) e
        have tb := hA.1 ((p2 (n - 1) - 1) * 6 + k) (by omega) (by omega)
        have ta := (hA.2 (p2 (n - 1) - 1) k (by omega) (by omega) k0 e).2
        rw [ful k k0 e] at ta
        have v33 : t 33 k = W 0 k := by rw [qt 33 (by decide)]; exact s33 k k0 e
        rw [v33]
        refine ⟨by omega, by omega, zRi (by omega) (by omega), fun x23 e23 => ⟨⟨by omega, by omega, by omega, ?_, fun k' a c => ?_⟩, zRi (by omega) (by omega), by dsimp only; omega⟩⟩
        · unfold pl at ta
          split at ta <;> omega
        · by_cases ek : k' = k
          · rw [ek]; omega
          · have := hM k' a (by omega)
            omega
    · refine ⟨fun l v => zQ [34] s v ∧ 1 ≤ l ∧ l ≤ n ∧ TA W n (BkS W n 0 0) (v 34) ∧ TB W n (BkS W n 0 0) y2 l (v 34), fun l _ => (6 - l).toNat, ⟨qt, by decide, by omega, hA, hB⟩, ?_⟩
      rintro l v ⟨qv, l0, l1, hA, hB⟩ -
      have v28 : v 28 8 = n := by rw [qv 28 (by decide)]; exact s28
      rw [v28]
      refine ⟨fun e => ⟨⟨qv, by omega, by omega, hA, TB_next (by rw [show l = n by omega] at hB; exact hB)⟩, zRi (by omega) (by omega), by dsimp only; omega⟩, fun e => ?_⟩
      refine t_N_extend (W := W) hn v28 (fun a b a0 a1 b0 b1 ne => by rw [qv 33 (by decide)]; exact s33' a b a0 a1 b0 b1 ne) hW ⟨by omega, d⟩ ⟨l0, e⟩ hA.1 (hA.2 y2 l (by omega) d l0 e).1 (fun τ q mono dn org => ⟨⟨zQ_t qv q, by omega, by omega, ?_, ?_⟩, zRi (by omega) (by omega), by dsimp only; omega⟩)
      · exact TA_ext hn hW O1 ⟨by omega, d⟩ ⟨l0, e⟩ hA mono org
      · exact TB_ext hn hW ⟨by omega, d⟩ ⟨l0, e⟩ hB mono dn
  · have bb := bt (s := 0) (k := y - 1) (by decide) (by omega)
    have pb := bb.2.2.2.2.2.2.1
    rw [bb.1]
    refine ⟨by omega, by omega, fun s1 e1 => ⟨⟨by rw [e1]; exact zQ_t hq (zQ_U (by decide)), by omega, by omega, fun i i0 i1 => ?_⟩, zRi (by omega) (by omega), by dsimp only; omega⟩⟩
    rw [e1, zU_if]
    by_cases e : i = p2 (y - 1) * 6 + y
    · rw [if_pos e]
      exact Or.inr ⟨y, by omega, e, s33 y y0 c⟩
    · rw [if_neg e]
      rcases hI i i0 i1 with ⟨a, q⟩ | ⟨k, hk, r⟩
      · refine Or.inl ⟨a, fun k k0 k1 => ?_⟩
        by_cases ek : k = y
        · rw [ek]; exact e
        · exact q k k0 (by omega)
      · exact Or.inr ⟨k, by omega, r⟩
