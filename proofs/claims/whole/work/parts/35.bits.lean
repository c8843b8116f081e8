/-! ===== bits ===== -/
def bit (x : Int) (i : Nat) : Bool := (zI x).toBitVec.getLsbD i
theorem bit_or (x y : Int) (i : Nat) : bit (zOr x y) i = (bit x i || bit y i) := by
  unfold bit
  rw [← zI_or, Int32.toBitVec_or, BitVec.getLsbD_or]
theorem bit_and (x y : Int) (i : Nat) : bit (zAnd x y) i = (bit x i && bit y i) := by
  unfold bit
  rw [← zI_and, Int32.toBitVec_and, BitVec.getLsbD_and]
theorem bit_xor (x y : Int) (i : Nat) : bit (zXor x y) i = Bool.xor (bit x i) (bit y i) := by
  unfold bit
  rw [← zI_xor, Int32.toBitVec_xor, BitVec.getLsbD_xor]
theorem bit_shl_all : ∀ j i : Fin 32, bit (zShl 1 ((j : Nat) : Int)) i = decide (i = j) := by decide +kernel
theorem bit_shl {j i : Nat} (hj : j < 32) (hi : i < 32) : bit (zShl 1 (j : Int)) i = decide (i = j) := by
  have h := bit_shl_all ⟨j, hj⟩ ⟨i, hi⟩
  simp only [Fin.mk.injEq] at h
  exact h
theorem bit_0 : ∀ i : Fin 32, bit 0 i = false := by decide +kernel
theorem bit_m1 : ∀ i : Fin 32, bit (-1) i = true := by decide +kernel
theorem bit_zero {i : Nat} (hi : i < 32) : bit 0 i = false := bit_0 ⟨i, hi⟩
theorem bit_ones {i : Nat} (hi : i < 32) : bit (-1) i = true := bit_m1 ⟨i, hi⟩
theorem bit_tb (x : Int) {i : Nat} (hi : i < 32) : zAnd (zShr x (i : Int)) 1 = if bit x i then 1 else 0 := by
  have h := zsh_amt ⟨i, hi⟩
  simp only at h
  have e1 : (zI (zShr x i)).toBitVec = (zI x).toBitVec.sshiftRight i := by
    rw [← zI_shr, Int32.toBitVec_shiftRight]
    show (zI x).toBitVec.sshiftRight ((zI i &&& 31).toBitVec.smod 32).toNat = _
    rw [h]
  have e2 : (zI (zShr x i) &&& zI 1).toBitVec = (zI x).toBitVec.sshiftRight i &&& 1#32 := by
    rw [Int32.toBitVec_and, e1]
    rfl
  have e3 : ((zI x).toBitVec.sshiftRight i &&& 1#32).toNat = ((zI x).toBitVec.sshiftRight i).toNat % 2 := by
    rw [BitVec.toNat_and]
    exact Nat.and_two_pow_sub_one_eq_mod _ 1
  have e4 : bit x i = ((zI x).toBitVec.sshiftRight i).getLsbD 0 := by
    unfold bit
    rw [BitVec.getLsbD_sshiftRight]
    simp [hi]
  show (zI (zShr x i) &&& zI 1).toBitVec.toInt = _
  rw [e2, BitVec.toInt_eq_toNat_cond, e3, e4]
  have e5 : ((zI x).toBitVec.sshiftRight i).getLsbD 0 = decide (((zI x).toBitVec.sshiftRight i).toNat % 2 = 1) := by
    show ((zI x).toBitVec.sshiftRight i).toNat.testBit 0 = _
    rw [Nat.testBit_zero]
  rw [e5]
  simp only [decide_eq_true_eq]
  split <;> split <;> omega
theorem bit_and1 (x : Int) {i : Nat} (hi : i < 32) : zAnd x (zShl 1 (i : Int)) = 0 ↔ bit x i = false := by
  constructor
  · intro h
    have := bit_and x (zShl 1 (i : Int)) i
    rw [h, bit_zero hi, bit_shl hi hi] at this
    simpa using this.symm
  · intro h
    have e : (zI (zAnd x (zShl 1 (i : Int)))).toBitVec = 0#32 := by
      apply BitVec.eq_of_getLsbD_eq
      intro j hj
      have := bit_and x (zShl 1 (i : Int)) j
      unfold bit at this
      rw [this]
      have h2 := bit_shl hi hj
      unfold bit at h2 h
      rw [h2]
      by_cases q : j = i
      · subst q
        rw [h]
        simp
      · simp [q]
    have e2 : zI (zAnd x (zShl 1 (i : Int))) = 0 := Int32.toBitVec_inj.mp (by rw [e]; rfl)
    have e3 := zI_toInt (zR_and x (zShl 1 (i : Int)))
    rw [e2] at e3
    exact e3.symm
/-- one bit set -/
theorem bit_set (x : Int) {i j : Nat} (hi : i < 32) (hj : j < 32) : bit (zOr x (zShl 1 (j : Int))) i = (bit x i || decide (i = j)) := by
  rw [bit_or, bit_shl hj hi]
/-- one bit cleared -/
theorem bit_clr (x : Int) {i j : Nat} (hi : i < 32) (hj : j < 32) : bit (zAnd x (zXor (zShl 1 (j : Int)) (-1))) i = (bit x i && !decide (i = j)) := by
  rw [bit_and, bit_xor, bit_shl hj hi, bit_ones hi]
  simp
theorem bit_seti (x : Int) {i j : Int} (hi : 0 ≤ i ∧ i < 32) (hj : 0 ≤ j ∧ j < 32) : bit (zOr x (zShl 1 j)) i.toNat = (bit x i.toNat || decide (i = j)) := by
  have h := bit_set x (i := i.toNat) (j := j.toNat) (by omega) (by omega)
  rw [Int.toNat_of_nonneg hj.1] at h
  rw [h]
  congr 1
  by_cases e : i = j
  · rw [e]; simp
  · rw [decide_eq_false e, decide_eq_false (by omega)]
theorem bit_clri (x : Int) {i j : Int} (hi : 0 ≤ i ∧ i < 32) (hj : 0 ≤ j ∧ j < 32) : bit (zAnd x (zXor (zShl 1 j) (-1))) i.toNat = (bit x i.toNat && !decide (i = j)) := by
  have h := bit_clr x (i := i.toNat) (j := j.toNat) (by omega) (by omega)
  rw [Int.toNat_of_nonneg hj.1] at h
  rw [h]
  congr 2
  by_cases e : i = j
  · rw [e]; simp
  · rw [decide_eq_false e, decide_eq_false (by omega)]
theorem bit_tbi (x : Int) {i : Int} (hi : 0 ≤ i ∧ i < 32) : zAnd (zShr x i) 1 = if bit x i.toNat then 1 else 0 := by
  have h := bit_tb x (i := i.toNat) (by omega)
  rw [Int.toNat_of_nonneg hi.1] at h
  exact h
theorem bit_and1i (x : Int) {i : Int} (hi : 0 ≤ i ∧ i < 32) : zAnd x (zShl 1 i) = 0 ↔ bit x i.toNat = false := by
  have h := bit_and1 x (i := i.toNat) (by omega)
  rw [Int.toNat_of_nonneg hi.1] at h
  exact h
