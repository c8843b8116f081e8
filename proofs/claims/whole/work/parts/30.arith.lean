/-! ===== layer 2: the mathematics of the formulas ===== -/
theorem n1a {P Q : Prop} (h : Q) : ((1 : Int) = 0 → P) ∧ ((1 : Int) ≠ 0 → Q) := ⟨fun e => absurd e (by decide), fun _ => h⟩
theorem n1b {P Q : Prop} (h : P) : ((1 : Int) ≠ 0 → P) ∧ ((1 : Int) = 0 → Q) := ⟨fun _ => h, fun e => absurd e (by decide)⟩
theorem n0a {P Q : Prop} (h : P) : ((0 : Int) = 0 → P) ∧ ((0 : Int) ≠ 0 → Q) := ⟨fun _ => h, fun e => absurd rfl e⟩
theorem n0b {P Q : Prop} (h : Q) : ((0 : Int) ≠ 0 → P) ∧ ((0 : Int) = 0 → Q) := ⟨fun e => absurd rfl e, fun _ => h⟩
theorem nT {c d P Q : Prop} (hc : c) (hd : ¬ d) (h : P) : (c → P) ∧ (d → Q) := ⟨fun _ => h, fun e => absurd e hd⟩
theorem nF {c d P Q : Prop} (hc : ¬ c) (hd : d) (h : Q) : (c → P) ∧ (d → Q) := ⟨fun e => absurd e hc, fun _ => h⟩
theorem zRi {x : Int} (h1 : -2147483648 ≤ x) (h2 : x ≤ 2147483647) : zR x := ⟨h1, h2⟩
theorem zRb {x a b : Int} (h1 : a ≤ x) (h2 : x ≤ b) (ha : -2147483648 ≤ a) (hb : b ≤ 2147483647) : zR x := ⟨Int.le_trans ha h1, Int.le_trans h2 hb⟩
theorem zAnd_7 (x : Int) : zAnd x 7 = x % 8 := by
  have h1 : (zI x &&& zI 7).toBitVec = BitVec.ofInt 32 x &&& 7#32 := rfl
  have h2 : (BitVec.ofInt 32 x &&& 7#32).toNat = (x % 4294967296).toNat % 8 := by
    rw [BitVec.toNat_and, BitVec.toNat_ofInt]
    exact Nat.and_two_pow_sub_one_eq_mod _ 3
  show (zI x &&& zI 7).toBitVec.toInt = _
  rw [h1, BitVec.toInt_eq_toNat_cond, h2]
  split <;> omega
theorem zAnd_1 (x : Int) : zAnd x 1 = x % 2 := by
  have h1 : (zI x &&& zI 1).toBitVec = BitVec.ofInt 32 x &&& 1#32 := rfl
  have h2 : (BitVec.ofInt 32 x &&& 1#32).toNat = (x % 4294967296).toNat % 2 := by
    rw [BitVec.toNat_and, BitVec.toNat_ofInt]
    exact Nat.and_two_pow_sub_one_eq_mod _ 1
  show (zI x &&& zI 1).toBitVec.toInt = _
  rw [h1, BitVec.toInt_eq_toNat_cond, h2]
  split <;> omega
theorem zAnd_255 (x : Int) : zAnd x 255 = x % 256 := by
  have h1 : (zI x &&& zI 255).toBitVec = BitVec.ofInt 32 x &&& 255#32 := rfl
  have h2 : (BitVec.ofInt 32 x &&& 255#32).toNat = (x % 4294967296).toNat % 256 := by
    rw [BitVec.toNat_and, BitVec.toNat_ofInt]
    exact Nat.and_two_pow_sub_one_eq_mod _ 8
  show (zI x &&& zI 255).toBitVec.toInt = _
  rw [h1, BitVec.toInt_eq_toNat_cond, h2]
  split <;> omega
theorem zsh_amt : ∀ c : Fin 32, ((zI ((c : Nat) : Int) &&& 31).toBitVec.smod 32).toNat = (c : Nat) := by decide +kernel
theorem zShr_eq {x : Int} (hx : zR x) {c : Nat} (hc : c < 32) : zShr x c = x / 2 ^ c := by
  have h := zsh_amt ⟨c, hc⟩
  show (zI x >>> (zI c &&& 31)).toBitVec.toInt = _
  rw [Int32.toBitVec_shiftRight]
  show ((zI x).toBitVec.sshiftRight ((zI c &&& 31).toBitVec.smod 32).toNat).toInt = _
  rw [BitVec.toInt_sshiftRight]
  simp only at h
  rw [h, Int.shiftRight_eq_div_pow]
  have e : (zI x).toBitVec.toInt = x := zI_toInt hx
  rw [e]
  rfl
theorem zShl_eq {x : Int} {c : Nat} (hc : c < 32) (hr : zR (x * 2 ^ c)) : zShl x c = x * 2 ^ c := by
  have h := zsh_amt ⟨c, hc⟩
  show (zI x <<< (zI c &&& 31)).toBitVec.toInt = _
  rw [Int32.toBitVec_shiftLeft, BitVec.shiftLeft_eq', BitVec.toInt_shiftLeft]
  simp only at h
  rw [h]
  have e : (((zI x).toBitVec.toNat <<< c : Nat) : Int).bmod (2 ^ 32) = (x * 2 ^ c).bmod (2 ^ 32) := by
    rw [Nat.shiftLeft_eq]
    have e2 : (zI x).toBitVec.toNat = (x % 2 ^ 32).toNat := BitVec.toNat_ofInt ..
    rw [e2]
    have e3 : (((x % 2 ^ 32).toNat * 2 ^ c : Nat) : Int) = (x % 2 ^ 32) * 2 ^ c := by
      rw [Int.natCast_mul, Int.toNat_of_nonneg (Int.emod_nonneg _ (by decide))]
      rfl
    rw [e3]
    exact Int.emod_mul_bmod x (2 ^ 32)
  rw [e]
  have := hr.1
  have := hr.2
  exact Int.bmod_eq_of_le (by omega) (by omega)
theorem zShr_1 {x : Int} (hx : zR x) : zShr x 1 = x / 2 := zShr_eq hx (c := 1) (by decide)
theorem zShr_10 {x : Int} (hx : zR x) : zShr x 10 = x / 1024 := zShr_eq hx (c := 10) (by decide)
theorem zShl_10 {x : Int} (h0 : -2097152 ≤ x) (h1 : x < 2097152) : zShl x 10 = x * 1024 := zShl_eq (c := 10) (by decide) ⟨by omega, by omega⟩
theorem zR_lit {x : Int} (h : -2147483648 ≤ x ∧ x ≤ 2147483647) : zR x := h
/-- two worlds agree off some objects -/
def zQ (S : List Nat) (σ τ : zS) : Prop := ∀ o, o ∉ S → τ o = σ o
theorem zQ_r (S : List Nat) (σ : zS) : zQ S σ σ := fun _ _ => rfl
theorem zQ_t {S : List Nat} {σ τ υ : zS} (h1 : zQ S σ τ) (h2 : zQ S τ υ) : zQ S σ υ := fun o ho => (h2 o ho).trans (h1 o ho)
theorem zQ_m {S T : List Nat} {σ τ : zS} (h : zQ S σ τ) (hs : ∀ o ∈ S, o ∈ T) : zQ T σ τ := fun o ho => h o (fun q => ho (hs o q))
theorem zQ_U {S : List Nat} {σ : zS} {o : Nat} {k v : Int} (h : o ∈ S) : zQ S σ (zU σ o k v) := fun a ha => zU_row (fun e => ha (e ▸ h))
theorem zQ_W {S : List Nat} {σ : zS} {o : Nat} {f : Int → Int} (h : o ∈ S) : zQ S σ (zW σ o f) := fun _ ha => zW_o (fun e => ha (e ▸ h))
theorem zQ_F {S : List Nat} {σ : zS} {o : Nat} {a b v : Int} (h : o ∈ S) : zQ S σ (zFill σ o a b v) := zQ_W h
theorem zFill_at {σ : zS} {o : Nat} {a b v c : Int} (h1 : a ≤ c) (h2 : c < b) : zFill σ o a b v o c = v := by
  unfold zFill
  rw [zW_s, if_pos ⟨h1, h2⟩]
theorem zFill_out {σ : zS} {o : Nat} {a b v c : Int} (h : ¬ (a ≤ c ∧ c < b)) : zFill σ o a b v o c = σ o c := by
  unfold zFill
  rw [zW_s, if_neg h]
theorem zFill_o {σ : zS} {o x : Nat} {a b v : Int} (h : x ≠ o) : zFill σ o a b v x = σ x := zW_o h
theorem zU_if (σ : zS) (o : Nat) (k v b : Int) : zU σ o k v o b = if b = k then v else σ o b := by
  unfold zU
  simp
/-- a number of indices below n of which something holds -/
def cnt (P : Nat → Bool) : Nat → Nat
  | 0 => 0
  | n + 1 => cnt P n + (if P n then 1 else 0)
theorem cnt_le (P : Nat → Bool) : ∀ n, cnt P n ≤ n
  | 0 => Nat.le_refl 0
  | n + 1 => by
    have := cnt_le P n
    unfold cnt
    split <;> omega
theorem cnt_mono {P Q : Nat → Bool} : ∀ n, (∀ i, i < n → P i = true → Q i = true) → cnt P n ≤ cnt Q n
  | 0, _ => Nat.le_refl 0
  | n + 1, h => by
    have h1 := cnt_mono n (fun i hi => h i (Nat.lt_succ_of_lt hi))
    have h2 := h n (Nat.lt_succ_self n)
    unfold cnt
    by_cases e : P n = true
    · rw [if_pos e, if_pos (h2 e)]
      omega
    · rw [if_neg e]
      omega
theorem cnt_lt {P Q : Nat → Bool} {j : Nat} : ∀ n, j < n → (∀ i, i < n → P i = true → Q i = true) → P j = false → Q j = true → cnt P n + 1 ≤ cnt Q n
  | 0, hj, _, _, _ => absurd hj (Nat.not_lt_zero _)
  | n + 1, hj, h, h1, h2 => by
    unfold cnt
    by_cases e : j = n
    · subst e
      have := cnt_mono (P := P) (Q := Q) j (fun i hi => h i (Nat.lt_succ_of_lt hi))
      rw [if_neg (by rw [h1]; decide), if_pos h2]
      omega
    · have h3 := cnt_lt n (by omega) (fun i hi => h i (Nat.lt_succ_of_lt hi)) h1 h2
      have h4 := h n (Nat.lt_succ_self n)
      by_cases e : P n = true
      · rw [if_pos e, if_pos (h4 e)]
        omega
      · rw [if_neg e]
        omega
theorem cnt_full {P : Nat → Bool} {j : Nat} {n : Nat} (hj : j < n) (h : P j = false) : cnt P n + 1 ≤ n := by
  have h1 := cnt_lt (P := P) (Q := fun _ => true) n hj (fun _ _ _ => rfl) h rfl
  have h2 := cnt_le (fun _ => true) n
  omega
theorem cnt_congr {P Q : Nat → Bool} : ∀ n, (∀ i, i < n → P i = Q i) → cnt P n = cnt Q n
  | 0, _ => rfl
  | n + 1, h => by
    unfold cnt
    rw [cnt_congr n (fun i hi => h i (Nat.lt_succ_of_lt hi)), h n (Nat.lt_succ_self n)]
theorem cnt_one {P Q : Nat → Bool} (j : Nat) : ∀ n, (∀ i, i < n → i ≠ j → Q i = P i) → cnt Q n ≤ cnt P n + 1
  | 0, _ => Nat.zero_le _
  | n + 1, h => by
    unfold cnt
    by_cases e : n = j
    · have := cnt_congr n (P := Q) (Q := P) (fun i hi => h i (Nat.lt_succ_of_lt hi) (by omega))
      split <;> split <;> omega
    · have := cnt_one j n (fun i hi => h i (Nat.lt_succ_of_lt hi))
      rw [h n (Nat.lt_succ_self n) e]
      omega
/-- a sum over indices below n -/
def smN (f : Nat → Nat) : Nat → Nat
  | 0 => 0
  | n + 1 => smN f n + f n
theorem smN_le {f g : Nat → Nat} : ∀ n, (∀ i, i < n → f i ≤ g i) → smN f n ≤ smN g n
  | 0, _ => Nat.le_refl 0
  | n + 1, h => by
    have := smN_le n (fun i hi => h i (Nat.lt_succ_of_lt hi))
    have := h n (Nat.lt_succ_self n)
    unfold smN
    omega
theorem smN_lt {f g : Nat → Nat} {j : Nat} : ∀ n, j < n → (∀ i, i < n → f i ≤ g i) → f j < g j → smN f n < smN g n
  | 0, hj, _, _ => absurd hj (Nat.not_lt_zero _)
  | n + 1, hj, h, h1 => by
    unfold smN
    have h4 := h n (Nat.lt_succ_self n)
    by_cases e : j = n
    · subst e
      have := smN_le j (fun i hi => h i (Nat.lt_succ_of_lt hi))
      omega
    · have := smN_lt n (by omega) (fun i hi => h i (Nat.lt_succ_of_lt hi)) h1
      omega
theorem smN_congr {f g : Nat → Nat} : ∀ n, (∀ i, i < n → f i = g i) → smN f n = smN g n
  | 0, _ => rfl
  | n + 1, h => by
    unfold smN
    rw [smN_congr n (fun i hi => h i (Nat.lt_succ_of_lt hi)), h n (Nat.lt_succ_self n)]
/-- a sum of whole numbers over k below n -/
def smI (f : Nat → Int) : Nat → Int
  | 0 => 0
  | n + 1 => smI f n + f n
theorem smI_congr {f g : Nat → Int} : ∀ n, (∀ i, i < n → f i = g i) → smI f n = smI g n
  | 0, _ => rfl
  | n + 1, h => by
    unfold smI
    rw [smI_congr n (fun i hi => h i (Nat.lt_succ_of_lt hi)), h n (Nat.lt_succ_self n)]
theorem smI_bd {f : Nat → Int} {a b : Int} : ∀ n : Nat, (∀ i, i < n → a ≤ f i ∧ f i ≤ b) → a * n ≤ smI f n ∧ smI f n ≤ b * n
  | 0, _ => by simp [smI]
  | n + 1, h => by
    have h1 := smI_bd n (fun i hi => h i (Nat.lt_succ_of_lt hi))
    have h2 := h n (Nat.lt_succ_self n)
    unfold smI
    rw [show ((n + 1 : Nat) : Int) = (n : Int) + 1 from rfl, Int.mul_add, Int.mul_add]
    omega
