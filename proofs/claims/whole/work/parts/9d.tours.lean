/-! ===== round: sets of stops, the tours of the class ===== -/
def p2 (k : Int) : Int := ((2 ^ k.toNat : Nat) : Int)
def hs (s k : Int) : Int := s / p2 k % 2
def pcn (s : Int) : Int := s % 2 + s / 2 % 2 + s / 4 % 2 + s / 8 % 2 + s / 16 % 2
theorem bt_all : ∀ (s : Fin 32) (k : Fin 5), (zShl 1 ((k : Nat) : Int) = p2 ((k : Nat) : Int)) ∧ (zAnd ((s : Nat) : Int) (p2 ((k : Nat) : Int)) = 0 ↔ hs ((s : Nat) : Int) ((k : Nat) : Int) = 0) ∧ (hs ((s : Nat) : Int) ((k : Nat) : Int) = 0 → zOr ((s : Nat) : Int) (p2 ((k : Nat) : Int)) = ((s : Nat) : Int) + p2 ((k : Nat) : Int)) ∧ (zAnd (zShr (2 * ((s : Nat) : Int) + 1) (((k : Nat) : Int) + 1)) 1 = hs ((s : Nat) : Int) ((k : Nat) : Int)) ∧ (hs ((s : Nat) : Int) ((k : Nat) : Int) = 0 → zOr (2 * ((s : Nat) : Int) + 1) (zShl 1 (((k : Nat) : Int) + 1)) = 2 * (((s : Nat) : Int) + p2 ((k : Nat) : Int)) + 1) ∧ (hs ((s : Nat) : Int) ((k : Nat) : Int) = 0 → pcn (((s : Nat) : Int) + p2 ((k : Nat) : Int)) = pcn ((s : Nat) : Int) + 1 ∧ hs (((s : Nat) : Int) + p2 ((k : Nat) : Int)) ((k : Nat) : Int) ≠ 0) ∧ (1 ≤ p2 ((k : Nat) : Int) ∧ p2 ((k : Nat) : Int) ≤ 16) ∧ hs 0 ((k : Nat) : Int) = 0 := by decide +kernel
theorem bt {s k : Int} (h0 : 0 ≤ s ∧ s < 32) (hk : 0 ≤ k ∧ k < 5) : (zShl 1 k = p2 k) ∧ (zAnd s (p2 k) = 0 ↔ hs s k = 0) ∧ (hs s k = 0 → zOr s (p2 k) = s + p2 k) ∧ (zAnd (zShr (2 * s + 1) (k + 1)) 1 = hs s k) ∧ (hs s k = 0 → zOr (2 * s + 1) (zShl 1 (k + 1)) = 2 * (s + p2 k) + 1) ∧ (hs s k = 0 → pcn (s + p2 k) = pcn s + 1 ∧ hs (s + p2 k) k ≠ 0) ∧ (1 ≤ p2 k ∧ p2 k ≤ 16) ∧ hs 0 k = 0 := by
  have h := bt_all ⟨s.toNat, by omega⟩ ⟨k.toNat, by omega⟩
  simp only at h
  rw [Int.toNat_of_nonneg h0.1, Int.toNat_of_nonneg hk.1] at h
  exact h
theorem bj_all : ∀ (j : Fin 6) (s : Fin 32) (k : Fin 5), ((s : Nat) : Int) < p2 ((j : Nat) : Int) → ((k : Nat) : Int) < ((j : Nat) : Int) → hs ((s : Nat) : Int) ((k : Nat) : Int) = 0 → ((s : Nat) : Int) + p2 ((k : Nat) : Int) < p2 ((j : Nat) : Int) := by decide +kernel
theorem bj {j s k : Int} (hj : 0 ≤ j ∧ j < 6) (h0 : 0 ≤ s ∧ s < 32) (hk : 0 ≤ k ∧ k < 5) : s < p2 j → k < j → hs s k = 0 → s + p2 k < p2 j := by
  have h := bj_all ⟨j.toNat, by omega⟩ ⟨s.toNat, by omega⟩ ⟨k.toNat, by omega⟩
  simp only at h
  rw [Int.toNat_of_nonneg hj.1, Int.toNat_of_nonneg h0.1, Int.toNat_of_nonneg hk.1] at h
  exact h
theorem bn_all : ∀ n : Fin 7, 2 ≤ (n : Nat) → zShl 1 ((n : Nat) : Int) - 1 = 2 * (p2 (((n : Nat) : Int) - 1) - 1) + 1 ∧ zShl 1 (((n : Nat) : Int) - 1) = p2 (((n : Nat) : Int) - 1) ∧ p2 (((n : Nat) : Int) - 1) ≤ 32 ∧ 2 ≤ p2 (((n : Nat) : Int) - 1) := by decide +kernel
theorem bn {n : Int} (hn : 2 ≤ n ∧ n ≤ 6) : zShl 1 n - 1 = 2 * (p2 (n - 1) - 1) + 1 ∧ zShl 1 (n - 1) = p2 (n - 1) ∧ p2 (n - 1) ≤ 32 ∧ 2 ≤ p2 (n - 1) := by
  have h := bn_all ⟨n.toNat, by omega⟩ (by show 2 ≤ n.toNat; omega)
  simp only at h
  rw [Int.toNat_of_nonneg (by omega)] at h
  exact h
theorem pcn_b (s : Int) : 0 ≤ pcn s ∧ pcn s ≤ 5 := by
  unfold pcn
  omega
def pl (x y : Int) : Int := if x < 1000000000 ∧ y < 1000000000 then x + y else 1000000000
/-- what is left to go: from stop `last`, the stops of s being gone to -/
def Bk (W : Int → Int → Int) (n : Int) : Nat → Int → Int → Int
  | 0, _, _ => 1000000000
  | d + 1, last, s => if s = p2 (n - 1) - 1 then W last 0 else gm (fun k => if hs s (k - 1) = 0 then pl (W last k) (Bk W n d k (s + p2 (k - 1))) else 1000000000) 1 (n - 1).toNat
def BkS (W : Int → Int → Int) (n last s : Int) : Int := Bk W n (7 - pcn s).toNat last s
section TR
variable {W : Int → Int → Int} {n : Int}
theorem BkS_full (hn : 2 ≤ n ∧ n ≤ 6) (last : Int) : BkS W n last (p2 (n - 1) - 1) = W last 0 := by
  unfold BkS
  have b := pcn_b (p2 (n - 1) - 1)
  obtain ⟨d, ed⟩ : ∃ d, (7 - pcn (p2 (n - 1) - 1)).toNat = d + 1 := ⟨(6 - pcn (p2 (n - 1) - 1)).toNat, by omega⟩
  rw [ed]
  exact if_pos rfl
theorem BkS_e {s last : Int} (h0 : 0 ≤ s ∧ s < 32) (hn : 2 ≤ n ∧ n ≤ 6) (hf : s ≠ p2 (n - 1) - 1) : BkS W n last s = gm (fun k => if hs s (k - 1) = 0 then pl (W last k) (Bk W n (6 - pcn s).toNat k (s + p2 (k - 1))) else 1000000000) 1 (n - 1).toNat := by
  unfold BkS
  have b := pcn_b s
  rw [show (7 - pcn s).toNat = (6 - pcn s).toNat + 1 by omega]
  exact if_neg hf
theorem BkS_in {s k : Int} (h0 : 0 ≤ s ∧ s < 32) (hk : 0 ≤ k ∧ k < 5) (hz : hs s k = 0) (last : Int) : Bk W n (6 - pcn s).toNat last (s + p2 k) = BkS W n last (s + p2 k) := by
  unfold BkS
  have b := ((bt h0 hk).2.2.2.2.2.1 hz).1
  rw [b, show (7 - (pcn s + 1)).toNat = (6 - pcn s).toNat by omega]
theorem BkS_le {s k last : Int} (h0 : 0 ≤ s ∧ s < 32) (hn : 2 ≤ n ∧ n ≤ 6) (hf : s ≠ p2 (n - 1) - 1) (hk : 0 ≤ k ∧ k < n - 1) (hz : hs s k = 0) : BkS W n last s ≤ pl (W last (k + 1)) (BkS W n (k + 1) (s + p2 k)) := by
  rw [BkS_e h0 hn hf]
  have g := (gm_min (fun k => if hs s (k - 1) = 0 then pl (W last k) (Bk W n (6 - pcn s).toNat k (s + p2 (k - 1))) else 1000000000) 1 (n - 1).toNat).1 k.toNat (by omega)
  rw [show 1 + (k.toNat : Int) = k + 1 by omega, show k + 1 - 1 = k by omega, if_pos hz, BkS_in h0 (by omega) hz] at g
  exact g
theorem BkS_ex {s last : Int} (h0 : 0 ≤ s ∧ s < 32) (hn : 2 ≤ n ∧ n ≤ 6) (hf : s ≠ p2 (n - 1) - 1) (hb : BkS W n last s < 1000000000) : ∃ k, (0 ≤ k ∧ k < n - 1) ∧ hs s k = 0 ∧ BkS W n last s = pl (W last (k + 1)) (BkS W n (k + 1) (s + p2 k)) := by
  rw [BkS_e h0 hn hf] at hb ⊢
  rcases (gm_min (fun k => if hs s (k - 1) = 0 then pl (W last k) (Bk W n (6 - pcn s).toNat k (s + p2 (k - 1))) else 1000000000) 1 (n - 1).toNat).2 with z | ⟨i, hi, z⟩
  · omega
  · rw [z] at hb ⊢
    rw [show 1 + (i : Int) - 1 = i by omega] at hb ⊢
    by_cases c : hs s i = 0
    · rw [if_pos c] at hb ⊢
      refine ⟨i, by omega, c, ?_⟩
      rw [BkS_in h0 (by omega) c, show 1 + (i : Int) = i + 1 by omega]
    · rw [if_neg c] at hb
      omega
def WB6 (W : Int → Int → Int) (n : Int) : Prop := ∀ a b, 0 ≤ a → a < n → 0 ≤ b → b < n → 0 ≤ W a b ∧ W a b ≤ 1000000000 ∧ W a b = W b a
theorem t_N_extend {K : zS → Prop} {σ : zS} {set_ last : Int} (hn : 2 ≤ n ∧ n ≤ 6) (h28 : σ 28 8 = n) (h33 : ∀ a b, 0 ≤ a → a < n → 0 ≤ b → b < n → a ≠ b → σ 33 (a * 6 + b) = W a b) (hW : WB6 W n) (h0 : 0 ≤ set_ ∧ set_ < p2 (n - 1)) (hl : 1 ≤ last ∧ last < n) (ht : ∀ i, 0 ≤ i → i < 192 → 0 ≤ σ 34 i ∧ σ 34 i ≤ 1000000000) (hin : σ 34 (set_ * 6 + last) < 1000000000 → hs set_ (last - 1) ≠ 0) (h : ∀ τ, zQ [34] σ τ → (∀ i, τ 34 i ≤ σ 34 i) → (∀ k, 0 ≤ k → k < n - 1 → hs set_ k = 0 → σ 34 (set_ * 6 + last) < 1000000000 → W last (k + 1) < 1000000000 → τ 34 ((set_ + p2 k) * 6 + (k + 1)) ≤ σ 34 (set_ * 6 + last) + W last (k + 1)) → (∀ i, τ 34 i = σ 34 i ∨ ∃ k, (0 ≤ k ∧ k < n - 1) ∧ hs set_ k = 0 ∧ σ 34 (set_ * 6 + last) < 1000000000 ∧ W last (k + 1) < 1000000000 ∧ i = (set_ + p2 k) * 6 + (k + 1) ∧ τ 34 i = σ 34 (set_ * 6 + last) + W last (k + 1)) → K τ) : q_N_extend set_ last K σ := by
  have b := bn hn
  have s32 : 0 ≤ set_ ∧ set_ < 32 := by omega
  unfold q_N_extend
  refine ⟨by omega, fun x3 e3 => ?_⟩
  rw [← e3] at h hin
  have x3b := ht (set_ * 6 + last) (by omega) (by omega)
  rw [← e3] at x3b
  refine ⟨fun y s => zQ [34] σ s ∧ 1 ≤ y ∧ y ≤ n ∧ (∀ i, s 34 i ≤ σ 34 i) ∧ (∀ k, 0 ≤ k → k + 1 < y → hs set_ k = 0 → x3 < 1000000000 → W last (k + 1) < 1000000000 → s 34 ((set_ + p2 k) * 6 + (k + 1)) ≤ x3 + W last (k + 1)) ∧ (∀ i, s 34 i = σ 34 i ∨ ∃ k, (0 ≤ k ∧ k + 1 < y) ∧ hs set_ k = 0 ∧ x3 < 1000000000 ∧ W last (k + 1) < 1000000000 ∧ i = (set_ + p2 k) * 6 + (k + 1) ∧ s 34 i = x3 + W last (k + 1)), fun y _ => (6 - y).toNat, ⟨zQ_r _ _, by decide, by omega, fun _ => Int.le_refl _, fun k a c => by omega, fun _ => Or.inl rfl⟩, ?_⟩
  rintro y s ⟨hq, y0, y1, mono, dn, org⟩ -
  have s28 : s 28 8 = n := by rw [hq 28 (by decide)]; exact h28
  rw [s28]
  refine ⟨fun c => h s hq mono (fun k k0 k1 => dn k k0 (by omega)) (fun i => ?_), fun c x8 e8 => ⟨by omega, fun x11 e11 => ?_⟩⟩
  · rcases org i with z | ⟨k, hk, r⟩
    · exact Or.inl z
    · exact Or.inr ⟨k, by omega, r⟩
  · have bb := bt (s := set_) (k := y - 1) s32 (by omega)
    rw [bb.1] at e8
    have leg : hs set_ (y - 1) = 0 → x3 < 1000000000 → x11 = W last y ∧ 0 ≤ W last y ∧ W last y ≤ 1000000000 := fun hz hx => by
      have ne : last ≠ y := fun q => hin hx (by rw [q]; exact hz)
      have w := hW last y (by omega) hl.2 (by omega) c
      exact ⟨by rw [e11, hq 33 (by decide)]; exact h33 last y (by omega) hl.2 (by omega) c ne, w.1, w.2.1⟩
    have skip : (hs set_ (y - 1) = 0 → x3 < 1000000000 → W last y < 1000000000 → False) → (zQ [34] σ s ∧ 1 ≤ y + 1 ∧ y + 1 ≤ n ∧ (∀ i, s 34 i ≤ σ 34 i) ∧ (∀ k, 0 ≤ k → k + 1 < y + 1 → hs set_ k = 0 → x3 < 1000000000 → W last (k + 1) < 1000000000 → s 34 ((set_ + p2 k) * 6 + (k + 1)) ≤ x3 + W last (k + 1)) ∧ (∀ i, s 34 i = σ 34 i ∨ ∃ k, (0 ≤ k ∧ k + 1 < y + 1) ∧ hs set_ k = 0 ∧ x3 < 1000000000 ∧ W last (k + 1) < 1000000000 ∧ i = (set_ + p2 k) * 6 + (k + 1) ∧ s 34 i = x3 + W last (k + 1))) ∧ zR (y + 1) ∧ (6 - (y + 1)).toNat < (6 - y).toNat := by
      intro no
      refine ⟨⟨hq, by omega, by omega, mono, fun k k0 k1 hz hx hw => ?_, fun i => ?_⟩, zRi (by omega) (by omega), by omega⟩
      · by_cases e : k = y - 1
        · rw [e] at hz hw
          rw [show y - 1 + 1 = y by omega] at hw
          exact (no hz hx hw).elim
        · exact dn k k0 (by omega) hz hx hw
      · rcases org i with z | ⟨k, hk, r⟩
        · exact Or.inl z
        · exact Or.inr ⟨k, by omega, r⟩
    refine ⟨fun g => skip (fun _ hx _ => by omega), fun g => ⟨fun g2 => skip (fun hz hx hw => by have := (leg hz hx).1; omega), fun g2 => ⟨fun g3 => skip (fun hz _ _ => g3 (by rw [e8]; exact bb.2.1.mpr hz)), fun g3 x21 e21 => ?_⟩⟩⟩
    have hz : hs set_ (y - 1) = 0 := bb.2.1.mp (by rw [← e8]; exact g3)
    obtain ⟨l1, l2, l3⟩ := leg hz g
    have so := bj (j := n - 1) (s := set_) (k := y - 1) (by omega) s32 (by omega) h0.2 (by omega) hz
    rw [e8, bb.2.2.1 hz] at e21
    have pb := bb.2.2.2.2.2.2.1
    have ex : x21 = (set_ + p2 (y - 1)) * 6 + (y - 1 + 1) := by omega
    refine ⟨by omega, zRi (by omega) (by omega), fun s26 e26 => ⟨⟨by rw [e26]; exact zQ_t hq (zQ_U (by decide)), by omega, by omega, fun i => ?_, fun k k0 k1 hz' hx hw => ?_, fun i => ?_⟩, zRi (by omega) (by omega), by dsimp only; omega⟩⟩
    · rw [e26, zU_if]
      by_cases e : i = x21
      · rw [if_pos e, e]
        have := mono x21
        omega
      · rw [if_neg e]; exact mono i
    · rw [e26, zU_if]
      by_cases e : k = y - 1
      · rw [e, show y - 1 + 1 = y by omega, if_pos (by omega)]
        omega
      · have d := dn k k0 (by omega) hz' hx hw
        by_cases e2 : (set_ + p2 k) * 6 + (k + 1) = x21
        · rw [if_pos e2, ← e2]
          omega
        · rw [if_neg e2]; exact d
    · rw [e26, zU_if]
      by_cases e : i = x21
      · rw [if_pos e]
        by_cases q : s 34 x21 ≤ x3 + x11
        · rw [show min (s 34 x21) (x3 + x11) = s 34 x21 by omega, ← e]
          rcases org i with z | ⟨k, hk, r⟩
          · exact Or.inl z
          · exact Or.inr ⟨k, by omega, r⟩
        · refine Or.inr ⟨y - 1, by omega, hz, g, by rw [show y - 1 + 1 = y by omega]; omega, by rw [e, ex], ?_⟩
          rw [show y - 1 + 1 = y by omega]
          omega
      · rw [if_neg e]
        rcases org i with z | ⟨k, hk, r⟩
        · exact Or.inl z
        · exact Or.inr ⟨k, by omega, r⟩
end TR
