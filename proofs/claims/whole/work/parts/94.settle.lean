/-! ===== the choices packed and read ===== -/
theorem shl3_all : ∀ (w : Fin 8) (j : Fin 7) (i : Fin 32), bit (zShl ((w : Nat) : Int) (3 * ((j : Nat) : Int))) i = (decide (3 * (j : Nat) ≤ (i : Nat) ∧ (i : Nat) < 3 * (j : Nat) + 3) && bit ((w : Nat) : Int) ((i : Nat) - 3 * (j : Nat))) := by decide +kernel
theorem shl3 {w : Int} {j i : Nat} (hw : 0 ≤ w ∧ w < 8) (hj : j < 7) (hi : i < 32) : bit (zShl w (3 * (j : Int))) i = (decide (3 * j ≤ i ∧ i < 3 * j + 3) && bit w (i - 3 * j)) := by
  have h := shl3_all ⟨w.toNat, by omega⟩ ⟨j, hj⟩ ⟨i, hi⟩
  simp only at h
  rw [Int.toNat_of_nonneg hw.1] at h
  exact h
theorem bit3_all : ∀ w : Fin 8, ((w : Nat) : Int) = (if bit ((w : Nat) : Int) 0 then 1 else 0) + 2 * (if bit ((w : Nat) : Int) 1 then 1 else 0) + 4 * (if bit ((w : Nat) : Int) 2 then 1 else 0) := by decide +kernel
theorem bit3 {w : Int} (hw : 0 ≤ w ∧ w < 8) : w = (if bit w 0 then 1 else 0) + 2 * (if bit w 1 then 1 else 0) + 4 * (if bit w 2 then 1 else 0) := by
  have h := bit3_all ⟨w.toNat, by omega⟩
  simp only at h
  rw [Int.toNat_of_nonneg hw.1] at h
  exact h
theorem pk_bits {v : Int → Int} {lo hi : Int} (l0 : -3 ≤ lo) (h3 : hi ≤ 3) (hv : ∀ o, lo ≤ o → o ≤ hi → -3 ≤ v o ∧ v o ≤ 4) : ∀ n : Nat, lo + n ≤ hi + 1 → (∀ i : Nat, i < 32 → 3 * (lo + n + 3) ≤ i → bit (pk v lo n) i = false) ∧ ∀ j t : Nat, j < n → t < 3 → bit (pk v lo n) (3 * (lo + 3).toNat + 3 * j + t) = bit (v (lo + j) + 3) t
  | 0, _ => ⟨fun i hi _ => bit_zero hi, fun j t hj => absurd hj (Nat.not_lt_zero _)⟩
  | n + 1, hn => by
    obtain ⟨a, b⟩ := pk_bits l0 h3 hv n (by omega)
    have hb := hv (lo + n) (by omega) (by omega)
    have es : (3 * (lo + n + 3) : Int) = 3 * (((lo + n + 3).toNat : Nat) : Int) := by omega
    have eb : ∀ i : Nat, i < 32 → bit (pk v lo (n + 1)) i = (bit (pk v lo n) i || (decide (3 * (lo + n + 3).toNat ≤ i ∧ i < 3 * (lo + n + 3).toNat + 3) && bit (v (lo + n) + 3) (i - 3 * (lo + n + 3).toNat))) := fun i hi => by
      show bit (zOr (pk v lo n) (zShl (v (lo + n) + 3) (3 * (lo + n + 3)))) i = _
      rw [bit_or, es, shl3 (by omega) (by omega) hi]
    refine ⟨fun i hi h3 => ?_, fun j t hj ht => ?_⟩
    · rw [eb i hi, a i hi (by omega), decide_eq_false (by omega)]
      rfl
    · rw [eb _ (by omega)]
      by_cases e : j = n
      · rw [e, a _ (by omega) (by omega), decide_eq_true (by omega), show 3 * (lo + 3).toNat + 3 * n + t - 3 * (lo + n + 3).toNat = t by omega]
        simp
      · rw [b j t (by omega) ht, decide_eq_false (by omega)]
        simp
theorem rd3 {x : Int} (hx : zR x) {c : Int} (hc : c = 0 ∨ c = 3 ∨ c = 6 ∨ c = 9 ∨ c = 12 ∨ c = 15 ∨ c = 18) : zAnd (zShr x c) 7 = (if bit x c.toNat then 1 else 0) + 2 * (if bit x (c.toNat + 1) then 1 else 0) + 4 * (if bit x (c.toNat + 2) then 1 else 0) := by
  have b : ∀ i : Nat, i < 32 → (x / 2 ^ i) % 2 = if bit x i then 1 else 0 := fun i hi => by
    rw [← bit_tb x hi, zAnd_1, zShr_eq hx hi]
  have q : ∀ i : Nat, i < 32 → zAnd (zShr x (i : Int)) 7 = (x / 2 ^ i) % 8 := fun i hi => by
    rw [zAnd_7, zShr_eq hx hi]
  rcases hc with e | e | e | e | e | e | e <;> subst e
  · have z0 := b 0 (by decide)
    have z1 := b 1 (by decide)
    have z2 := b 2 (by decide)
    have z := q 0 (by decide)
    show zAnd (zShr x ((0 : Nat) : Int)) 7 = (if bit x 0 then 1 else 0) + 2 * (if bit x 1 then 1 else 0) + 4 * (if bit x 2 then 1 else 0)
    rw [z, ← z0, ← z1, ← z2]
    omega
  · have z0 := b 3 (by decide)
    have z1 := b 4 (by decide)
    have z2 := b 5 (by decide)
    have z := q 3 (by decide)
    show zAnd (zShr x ((3 : Nat) : Int)) 7 = (if bit x 3 then 1 else 0) + 2 * (if bit x 4 then 1 else 0) + 4 * (if bit x 5 then 1 else 0)
    rw [z, ← z0, ← z1, ← z2]
    omega
  · have z0 := b 6 (by decide)
    have z1 := b 7 (by decide)
    have z2 := b 8 (by decide)
    have z := q 6 (by decide)
    show zAnd (zShr x ((6 : Nat) : Int)) 7 = (if bit x 6 then 1 else 0) + 2 * (if bit x 7 then 1 else 0) + 4 * (if bit x 8 then 1 else 0)
    rw [z, ← z0, ← z1, ← z2]
    omega
  · have z0 := b 9 (by decide)
    have z1 := b 10 (by decide)
    have z2 := b 11 (by decide)
    have z := q 9 (by decide)
    show zAnd (zShr x ((9 : Nat) : Int)) 7 = (if bit x 9 then 1 else 0) + 2 * (if bit x 10 then 1 else 0) + 4 * (if bit x 11 then 1 else 0)
    rw [z, ← z0, ← z1, ← z2]
    omega
  · have z0 := b 12 (by decide)
    have z1 := b 13 (by decide)
    have z2 := b 14 (by decide)
    have z := q 12 (by decide)
    show zAnd (zShr x ((12 : Nat) : Int)) 7 = (if bit x 12 then 1 else 0) + 2 * (if bit x 13 then 1 else 0) + 4 * (if bit x 14 then 1 else 0)
    rw [z, ← z0, ← z1, ← z2]
    omega
  · have z0 := b 15 (by decide)
    have z1 := b 16 (by decide)
    have z2 := b 17 (by decide)
    have z := q 15 (by decide)
    show zAnd (zShr x ((15 : Nat) : Int)) 7 = (if bit x 15 then 1 else 0) + 2 * (if bit x 16 then 1 else 0) + 4 * (if bit x 17 then 1 else 0)
    rw [z, ← z0, ← z1, ← z2]
    omega
  · have z0 := b 18 (by decide)
    have z1 := b 19 (by decide)
    have z2 := b 20 (by decide)
    have z := q 18 (by decide)
    show zAnd (zShr x ((18 : Nat) : Int)) 7 = (if bit x 18 then 1 else 0) + 2 * (if bit x 19 then 1 else 0) + 4 * (if bit x 20 then 1 else 0)
    rw [z, ← z0, ← z1, ← z2]
    omega
