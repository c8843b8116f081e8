/-! whole numbers as the machine's: zI x is the int that is x modulo 2^32; zR: x is one of its values -/
def zI (x : Int) : Int32 := Int32.ofInt x
def zR (x : Int) : Prop := -2147483648 ≤ x ∧ x ≤ 2147483647
theorem zI_toInt {x : Int} (h : zR x) : (zI x).toInt = x := Int32.toInt_ofInt_of_le (by have := h.1; omega) (by have := h.2; omega)
theorem zI_of (x : Int32) : zI x.toInt = x := Int32.ofInt_toInt x
theorem zR_of (x : Int32) : zR x.toInt := ⟨by have := x.le_toInt; omega, by have := x.toInt_lt; omega⟩
theorem zI_add (x y : Int) : zI x + zI y = zI (x + y) := (Int32.ofInt_add x y).symm
theorem zI_sub (x y : Int) : zI x - zI y = zI (x - y) := (Int32.ofInt_sub x y).symm
theorem zI_mul (x y : Int) : zI x * zI y = zI (x * y) := (Int32.ofInt_mul x y).symm
theorem zI_neg (x : Int) : - zI x = zI (-x) := Int32.neg_ofInt
theorem zI_lt {x y : Int} (hx : zR x) (hy : zR y) : zI x < zI y ↔ x < y := by
  rw [Int32.lt_iff_toInt_lt, zI_toInt hx, zI_toInt hy]
theorem zI_le {x y : Int} (hx : zR x) (hy : zR y) : zI x ≤ zI y ↔ x ≤ y := by
  rw [Int32.le_iff_toInt_le, zI_toInt hx, zI_toInt hy]
theorem zI_eq {x y : Int} (hx : zR x) (hy : zR y) : zI x = zI y ↔ x = y := by
  refine ⟨fun h => ?_, fun h => by rw [h]⟩
  have h2 := congrArg Int32.toInt h
  rwa [zI_toInt hx, zI_toInt hy] at h2
theorem zI_0 : zI 0 = 0 := rfl
theorem zR_0 : zR 0 := ⟨by decide, by decide⟩
theorem zI_nat (n : Nat) : zI (n : Int) = Int32.ofNat n := Int32.ofInt_eq_ofNat
theorem zI_clamp {x : Int} (h : zR x) : (zI x).toNatClampNeg = x.toNat := by
  show (zI x).toInt.toNat = x.toNat
  rw [zI_toInt h]
theorem zI_in {i : Int} {n : Nat} (h0 : 0 ≤ i) (h1 : i < n) (hn : n ≤ 2147483648) : vp_in (zI i) n := by
  have hr : zR i := ⟨by omega, by omega⟩
  rw [vp_in_iff, zI_toInt hr]
  exact ⟨h0, h1⟩
theorem zI_div {x y : Int} (hx : zR x) (hy : zR y) (h : -2147483648 < x ∨ y ≠ -1) : zI x / zI y = zI (Int.tdiv x y) := by
  apply Int32.toInt_inj.mp
  have h3 : (zI x / zI y).toInt = (Int.tdiv x y).bmod (2 ^ 32) := by
    rw [Int32.toInt_div, zI_toInt hx, zI_toInt hy]
  rw [h3]
  show _ = (Int32.ofInt _).toInt
  rw [Int32.toInt_ofInt]
theorem zI_rem {x y : Int} (hx : zR x) (hy : zR y) : zI x - zI x / zI y * zI y = zI (Int.tmod x y) := by
  have e : zI x / zI y = zI (Int.tdiv x y) := by
    apply Int32.toInt_inj.mp
    have h3 : (zI x / zI y).toInt = (Int.tdiv x y).bmod (2 ^ 32) := by
      rw [Int32.toInt_div, zI_toInt hx, zI_toInt hy]
    rw [h3]
    show _ = (Int32.ofInt _).toInt
    rw [Int32.toInt_ofInt]
  rw [e, zI_mul, zI_sub]
  congr 1
  have := Int.mul_tdiv_add_tmod x y
  rw [Int.mul_comm] at this
  omega
def zAnd (x y : Int) : Int := (zI x &&& zI y).toInt
def zOr (x y : Int) : Int := (zI x ||| zI y).toInt
def zXor (x y : Int) : Int := (zI x ^^^ zI y).toInt
def zShl (x y : Int) : Int := (zI x <<< (zI y &&& 31)).toInt
def zShr (x y : Int) : Int := (zI x >>> (zI y &&& 31)).toInt
def zUshr (x y : Int) : Int := ((zI x).toUInt32 >>> ((zI y).toUInt32 &&& Int32.toUInt32 31)).toInt32.toInt
theorem zI_and (x y : Int) : zI x &&& zI y = zI (zAnd x y) := (zI_of _).symm
theorem zI_or (x y : Int) : zI x ||| zI y = zI (zOr x y) := (zI_of _).symm
theorem zI_xor (x y : Int) : zI x ^^^ zI y = zI (zXor x y) := (zI_of _).symm
theorem zI_shl (x y : Int) : zI x <<< (zI y &&& 31) = zI (zShl x y) := (zI_of _).symm
theorem zI_shr (x y : Int) : zI x >>> (zI y &&& 31) = zI (zShr x y) := (zI_of _).symm
theorem zI_ushr (x y : Int) : ((zI x).toUInt32 >>> ((zI y).toUInt32 &&& Int32.toUInt32 31)).toInt32 = zI (zUshr x y) := (zI_of _).symm
theorem zR_and (x y : Int) : zR (zAnd x y) := zR_of _
theorem zR_or (x y : Int) : zR (zOr x y) := zR_of _
theorem zR_xor (x y : Int) : zR (zXor x y) := zR_of _
theorem zR_shl (x y : Int) : zR (zShl x y) := zR_of _
theorem zR_shr (x y : Int) : zR (zShr x y) := zR_of _
theorem zR_ushr (x y : Int) : zR (zUshr x y) := zR_of _
def zJ (x : Int) : Int64 := Int64.ofInt x
theorem zJ_i2l {x : Int} (h : zR x) : (zI x).toInt64 = zJ x := by
  apply Int64.toInt_inj.mp
  rw [Int32.toInt_toInt64, zI_toInt h]
  exact (Int64.toInt_ofInt_of_le (by have := h.1; omega) (by have := h.2; omega)).symm
theorem zJ_toInt {x : Int} (h : zR x) : (zJ x).toInt = x := Int64.toInt_ofInt_of_le (by have := h.1; omega) (by have := h.2; omega)
theorem zJ_eq {x y : Int} (hx : zR x) (hy : zR y) : zJ x = zJ y ↔ x = y := by
  refine ⟨fun h => ?_, fun h => by rw [h]⟩
  have h2 := congrArg Int64.toInt h
  rwa [zJ_toInt hx, zJ_toInt hy] at h2
