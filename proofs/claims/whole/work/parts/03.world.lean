/-! ===== the world: what lies in the heap, as whole numbers ===== -/
/-- of an object's number and a place in it (a field's slot, an index) the number that lies there -/
abbrev zS : Type := Nat → Int → Int
/-- what an object is: a row of ints or booleans (kind, length), a row of longs (length), an object (class's number, its fields: none a number, some none null, some (some o) the object o) -/
abbrev zL : Type := (Nat × Nat) ⊕ Nat ⊕ (Nat × List (Option (Option Nat)))
abbrev zAr (t n : Nat) : zL := .inl (t, n)
abbrev zLo (n : Nat) : zL := .inr (.inl n)
abbrev zOb (ci : Nat) (fs : List (Option (Option Nat))) : zL := .inr (.inr (ci, fs))
def zRG (σ : zS) : Prop := ∀ o i, zR (σ o i)
/-- one number is another one -/
def zU (σ : zS) (o : Nat) (k v : Int) : zS := fun a b => if a = o ∧ b = k then v else σ a b
/-- one row is another one -/
def zW (σ : zS) (o : Nat) (f : Int → Int) : zS := fun a => if a = o then f else σ a
theorem zU_s (σ : zS) (o : Nat) (k v : Int) : zU σ o k v o k = v := by simp [zU]
theorem zU_o {σ : zS} {o a : Nat} {k b v : Int} (h : a ≠ o) : zU σ o k v a b = σ a b := by simp [zU, h]
theorem zU_k {σ : zS} {o a : Nat} {k b v : Int} (h : b ≠ k) : zU σ o k v a b = σ a b := by simp [zU, h]
theorem zU_row {σ : zS} {o a : Nat} {k v : Int} (h : a ≠ o) : zU σ o k v a = σ a := by funext b; simp [zU, h]
theorem zW_s (σ : zS) (o : Nat) (f : Int → Int) : zW σ o f o = f := by simp [zW]
theorem zW_o {σ : zS} {o a : Nat} {f : Int → Int} (h : a ≠ o) : zW σ o f a = σ a := by simp [zW, h]
theorem zRG_U {σ : zS} {o : Nat} {k v : Int} (h : zRG σ) (hv : zR v) : zRG (zU σ o k v) := by
  intro a b
  unfold zU
  split
  · exact hv
  · exact h a b
theorem zRG_W {σ : zS} {o : Nat} {f : Int → Int} (h : zRG σ) (hv : ∀ i, zR (f i)) : zRG (zW σ o f) := by
  intro a b
  unfold zW
  split
  · exact hv b
  · exact h a b
def zF (ad : Nat → Nat) (f : Int → Int) : Nat → List (Option (Option Nat)) → List Value
  | _, [] => []
  | k, none :: r => .int (zI (f k)) :: zF ad f (k + 1) r
  | k, some none :: r => .null :: zF ad f (k + 1) r
  | k, some (some o) :: r => .ref (ad o) :: zF ad f (k + 1) r
def zE (dA : Nat → ClassId) (ad : Nat → Nat) (f : Int → Int) (y : zL) : va_E := match y with
  | .inl (t, n) => .inl (dA t, n, .inl (fun j => zI (f j)))
  | .inr (.inl n) => .inl (dA 3, n, .inr (.inl (fun j => zJ (f j))))
  | .inr (.inr (ci, fs)) => .inr (ci, zF ad f 0 fs)
def zX (dA : Nat → ClassId) (ad : Nat → Nat) (σ : zS) : Nat → List zL → va_W
  | _, [] => []
  | k, y :: r => (ad k, zE dA ad (σ k) y) :: zX dA ad σ (k + 1) r
abbrev zw (dA : Nat → ClassId) (ad : Nat → Nat) (Ls : List zL) (σ : zS) : va_W := zX dA ad σ 0 Ls
theorem zX_get (dA : Nat → ClassId) (ad : Nat → Nat) (σ : zS) : ∀ (Ls : List zL) (k i : Nat), (zX dA ad σ k Ls)[i]? = (Ls[i]?).map (fun y => (ad (k + i), zE dA ad (σ (k + i)) y))
  | [], k, i => by simp [zX]
  | y :: r, k, 0 => by simp [zX]
  | y :: r, k, i + 1 => by
    simp only [zX, List.getElem?_cons_succ]
    rw [zX_get dA ad σ r (k + 1) i, show k + 1 + i = k + (i + 1) by omega]
theorem zw_get {dA : Nat → ClassId} {ad : Nat → Nat} {σ : zS} {Ls : List zL} {o : Nat} {y : zL} (h : Ls[o]? = some y) : (zw dA ad Ls σ)[o]? = some (ad o, zE dA ad (σ o) y) := by
  have e := zX_get dA ad σ Ls 0 o
  rw [h, Nat.zero_add] at e
  exact e
theorem zw_set {dA : Nat → ClassId} {ad : Nat → Nat} {σ σ' : zS} {Ls : List zL} {o : Nat} {y y' : zL} {e' : va_E} (h : Ls[o]? = some y) (he : zE dA ad (σ' o) y' = e') (hs : ∀ a, a ≠ o → σ' a = σ a) : (zw dA ad Ls σ).set o (ad o, e') = zw dA ad (Ls.set o y') σ' := by
  have hl := (List.getElem?_eq_some_iff.mp h).1
  apply List.ext_getElem?
  intro i
  have e1 := zX_get dA ad σ Ls 0 i
  have e2 := zX_get dA ad σ' (Ls.set o y') 0 i
  rw [Nat.zero_add] at e1 e2
  by_cases hi : i = o
  · subst hi
    have hl2 : i < (zw dA ad Ls σ).length := (List.getElem?_eq_some_iff.mp (zw_get h)).1
    rw [List.getElem?_set_self hl2]
    refine Eq.trans ?_ e2.symm
    rw [List.getElem?_set_self hl]
    simp [he]
  · rw [List.getElem?_set_ne (Ne.symm hi)]
    refine Eq.trans e1 (Eq.trans ?_ e2.symm)
    rw [List.getElem?_set_ne (Ne.symm hi), hs i hi]
theorem zw_put {dA : Nat → ClassId} {ad : Nat → Nat} {σ σ' : zS} {Ls : List zL} {o : Nat} {y : zL} {e' : va_E} (h : Ls[o]? = some y) (he : zE dA ad (σ' o) y = e') (hs : ∀ a, a ≠ o → σ' a = σ a) : (zw dA ad Ls σ).set o (ad o, e') = zw dA ad Ls σ' := by
  rw [zw_set h he hs]
  congr 1
  apply List.ext_getElem?
  intro i
  by_cases hi : i = o
  · subst hi
    rw [List.getElem?_set_self (List.getElem?_eq_some_iff.mp h).1, h]
  · rw [List.getElem?_set_ne (Ne.symm hi)]
theorem zX_app (dA : Nat → ClassId) (ad : Nat → Nat) (σ : zS) : ∀ (L1 : List zL) (k : Nat) (L2 : List zL), zX dA ad σ k (L1 ++ L2) = zX dA ad σ k L1 ++ zX dA ad σ (k + L1.length) L2
  | [], k, L2 => by simp [zX]
  | y :: r, k, L2 => by
    simp only [List.cons_append, zX]
    rw [zX_app dA ad σ r (k + 1) L2, List.length_cons, show k + 1 + r.length = k + (r.length + 1) by omega]
theorem zF_get (ad : Nat → Nat) (f : Int → Int) : ∀ (fs : List (Option (Option Nat))) (k i : Nat), (zF ad f k fs)[i]? = (fs[i]?).map (fun x => match x with | none => Value.int (zI (f ((k + i : Nat) : Int))) | some none => Value.null | some (some o) => Value.ref (ad o))
  | [], k, i => by simp [zF]
  | none :: r, k, 0 => by simp [zF]
  | some none :: r, k, 0 => by simp [zF]
  | some (some o) :: r, k, 0 => by simp [zF]
  | none :: r, k, i + 1 => by
    simp only [zF, List.getElem?_cons_succ]
    rw [zF_get ad f r (k + 1) i, show k + 1 + i = k + (i + 1) by omega]
  | some none :: r, k, i + 1 => by
    simp only [zF, List.getElem?_cons_succ]
    rw [zF_get ad f r (k + 1) i, show k + 1 + i = k + (i + 1) by omega]
  | some (some o) :: r, k, i + 1 => by
    simp only [zF, List.getElem?_cons_succ]
    rw [zF_get ad f r (k + 1) i, show k + 1 + i = k + (i + 1) by omega]
theorem zF_set {ad : Nat → Nat} {f f' : Int → Int} {fs : List (Option (Option Nat))} {i : Nat} {x x' : Option (Option Nat)} {v : Value} (h : fs[i]? = some x) (hv : v = (match x' with | none => Value.int (zI (f' i)) | some none => Value.null | some (some o) => Value.ref (ad o))) (hf : ∀ j : Nat, j ≠ i → f' j = f j) : (zF ad f 0 fs).set i v = zF ad f' 0 (fs.set i x') := by
  have hl := (List.getElem?_eq_some_iff.mp h).1
  apply List.ext_getElem?
  intro j
  rw [zF_get ad f' _ 0 j]
  by_cases hj : j = i
  · subst hj
    have hl2 : j < (zF ad f 0 fs).length := by
      have := zF_get ad f fs 0 j
      rw [h] at this
      exact (List.getElem?_eq_some_iff.mp this).1
    rw [List.getElem?_set_self hl2, List.getElem?_set_self hl, hv]
    simp
  · rw [List.getElem?_set_ne (Ne.symm hj), List.getElem?_set_ne (Ne.symm hj), zF_get ad f _ 0 j]
    simp only [Nat.zero_add]
    rw [hf j hj]
theorem zF_put {ad : Nat → Nat} {f f' : Int → Int} {fs : List (Option (Option Nat))} {i : Nat} {v : Value} (h : fs[i]? = some none) (hv : v = Value.int (zI (f' i))) (hf : ∀ j : Nat, j ≠ i → f' j = f j) : (zF ad f 0 fs).set i v = zF ad f' 0 fs := by
  rw [zF_set (x' := none) h hv hf]
  congr 1
  apply List.ext_getElem?
  intro j
  by_cases hj : j = i
  · subst hj
    rw [List.getElem?_set_self (List.getElem?_eq_some_iff.mp h).1, h]
  · rw [List.getElem?_set_ne (Ne.symm hj)]
theorem zw_D {A : Nat → Prop} {dA : Nat → ClassId} {ad : Nat → Nat} {Ls : List zL} {σ σ' : zS} (h : va_D A (zw dA ad Ls σ)) : va_D A (zw dA ad Ls σ') := by
  have key : ∀ (k : Nat) (q : Nat × va_E), (zw dA ad Ls σ')[k]? = some q → ∃ q0, (zw dA ad Ls σ)[k]? = some q0 ∧ q0.1 = q.1 := by
    intro k q hk
    rw [zX_get] at hk ⊢
    cases hy : Ls[k]? with
    | none => rw [hy] at hk; simp at hk
    | some y =>
      rw [hy] at hk
      simp only [Option.map_some, Option.some.injEq] at hk
      exact ⟨_, rfl, by rw [← hk]⟩
  refine ⟨fun i j x y hi hj hxy => ?_, fun k q hk => ?_⟩
  · obtain ⟨x0, h1, h2⟩ := key i x hi
    obtain ⟨y0, h3, h4⟩ := key j y hj
    exact h.1 i j x0 y0 h1 h3 (h2.trans (hxy.trans h4.symm))
  · obtain ⟨q0, h1, h2⟩ := key k q hk
    rw [← h2]
    exact h.2 k q0 h1
