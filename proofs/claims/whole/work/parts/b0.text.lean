/-! ===== the text: what it says ===== -/
abbrev Out := Int × (Int → Int)
def er (b : Int) : Out := (b, fun _ => 0)
noncomputable def oif (P : Prop) (a b : Out) : Out := @ite _ P (Classical.propDecidable P) a b
theorem oif_t {P : Prop} {a b : Out} (h : P) : oif P a b = a := @if_pos P (Classical.propDecidable P) h _ a b
theorem oif_f {P : Prop} {a b : Out} (h : ¬ P) : oif P a b = b := @if_neg P (Classical.propDecidable P) h _ a b
def skF (t : Int → Int) (N : Int) : Nat → Int → Int
  | 0, a => a
  | f + 1, a => if a < N ∧ t a = 32 then skF t N f (a + 1) else a
/-- the first place from a on that is no blank -/
def sk (t : Int → Int) (N a : Int) : Int := skF t N (N - a).toNat a
def ltr (x : Int) : Prop := 97 ≤ x ∧ x ≤ 122
/-- at b stands the word w -/
def WdP (t : Int → Int) (N b : Int) (w : List Int) : Prop := b + w.length ≤ N ∧ (∀ i : Int, 0 ≤ i → i < w.length → t (b + i) = w.getD i.toNat 0) ∧ (b + w.length < N → ¬ ltr (t (b + w.length)))
def Dg (t : Int → Int) (N b : Int) : Prop := b < N ∧ 48 ≤ t b ∧ t b ≤ 57
/-- how many digits stand at b, three at most -/
noncomputable def nd (t : Int → Int) (N b : Int) : Int := cif (Dg t N b) (cif (Dg t N (b + 1)) (cif (Dg t N (b + 2)) 3 2) 1) 0
def vl (t : Int → Int) (b d : Int) : Int := if d = 0 then 0 else if d = 1 then t b - 48 else if d = 2 then 10 * (t b - 48) + (t (b + 1) - 48) else 10 * (10 * (t b - 48) + (t (b + 1) - 48)) + (t (b + 2) - 48)
def NOk (t : Int → Int) (N b lo hi : Int) : Prop := (nd t N b = 1 ∨ nd t N b = 2) ∧ lo ≤ vl t b (nd t N b) ∧ vl t b (nd t N b) ≤ hi
section TT
variable (t : Int → Int) (N : Int)
noncomputable def sWord (w : List Int) (a : Int) (k : Int → Out) : Out := oif (WdP t N (sk t N a) w) (k (sk t N a + w.length)) (er (sk t N a))
noncomputable def sMark (a : Int) (k : Int → Out) : Out := oif (sk t N a < N ∧ t (sk t N a) = 59) (k (sk t N a + 1)) (er (sk t N a))
noncomputable def sNum (lo hi a : Int) (k : Int → Int → Out) : Out := oif (NOk t N (sk t N a) lo hi) (k (vl t (sk t N a) (nd t N (sk t N a))) (sk t N a + nd t N (sk t N a))) (er (sk t N a))
noncomputable def sHead (p : Prop) (a : Int) (k : Int → Out) : Out := oif p (sMark t N a (fun a1 => sWord t N [114, 111, 119] a1 k)) (k a)
/-- so many heights from place i on -/
noncomputable def sRows (W : Int) (k : Int → (Int → Int) → Out) : Nat → Int → Int → (Int → Int) → Out
  | 0, _, a, c => k a c
  | n + 1, i, a, c => sHead t N (i % W = 0) a (fun a1 => sNum t N 0 99 a1 (fun v a2 => sRows W k n (i + 1) a2 (up c (13 + i) v)))
noncomputable def tmF (b : Int) : List (Int × List Int) → Int
  | [] => -1
  | (k, w) :: r => cif (WdP t N b w) k (tmF b r)
def wdL (k : Int) : List Int := (zTWs.getD k.toNat (0, [])).2
noncomputable def sClause (a : Int) (c : Int → Int) (T : Int → Prop) (k : Int → (Int → Int) → (Int → Prop) → Out) : Out :=
  oif (WdP t N (sk t N a) [119, 101, 116])
    (sNum t N 0 (c 0 * c 1 - 1) (sk t N a + 3) (fun v a2 => oif (c (94 + v) = 0) (k a2 (up c (94 + v) 1) T) (er (sk t N (sk t N a + 3)))))
    (oif (tmF t N (sk t N a) zTWs = -1 ∨ T (tmF t N (sk t N a) zTWs)) (er (sk t N a))
      (sNum t N (zSV 0 (tmF t N (sk t N a) zTWs)) (zSV 1 (tmF t N (sk t N a) zTWs)) (sk t N a + (wdL (tmF t N (sk t N a) zTWs)).length) (fun v a2 => k a2 (up c (2 + tmF t N (sk t N a) zTWs) v) (fun j => j = tmF t N (sk t N a) zTWs ∨ T j))))
/-- the clauses, n of them at most -/
noncomputable def sCl : Nat → Int → (Int → Int) → (Int → Prop) → Out
  | 0, a, _, _ => er a
  | n + 1, a, c, T => oif (sk t N a = N) (-1, c) (sMark t N a (fun a1 => oif (n = 0) (er (sk t N a1)) (sClause t N a1 c T (fun a2 c2 T2 => sCl n a2 c2 T2))))
def c0L : Int → Int := fun j => if 2 ≤ j ∧ j < 13 then zSV 2 (j - 2) else 0
noncomputable def sLand : Out := sWord t N [108, 97, 110, 100] 0 (fun a => sNum t N 2 9 a (fun w a1 => sNum t N 2 9 a1 (fun d a2 => sRows t N w (fun a3 c => sCl t N 15 a3 c (fun _ => False)) (w * d).toNat 0 a2 (up (up c0L 0 w) 1 d))))
end TT
section TU
variable {t : Int → Int} {N a b : Int}
theorem sk_blank (h : a < N) (e : t a = 32) : sk t N a = sk t N (a + 1) := by
  unfold sk
  rw [show (N - a).toNat = (N - (a + 1)).toNat + 1 by omega]
  exact if_pos ⟨h, e⟩
theorem sk_stop (h : ¬ (a < N ∧ t a = 32)) : sk t N a = a := by
  unfold sk
  cases (N - a).toNat with
  | zero => rfl
  | succ n => exact if_neg h
theorem sk_p : ∀ (n : Nat) (a : Int), (N - a).toNat = n → a ≤ N → (a ≤ sk t N a ∧ sk t N a ≤ N) ∧ ¬ (sk t N a < N ∧ t (sk t N a) = 32)
  | 0, a, h, ha => by
    have : ¬ (a < N ∧ t a = 32) := fun z => by omega
    rw [sk_stop this]
    exact ⟨by omega, this⟩
  | n + 1, a, h, ha => by
    by_cases c : a < N ∧ t a = 32
    · rw [sk_blank c.1 c.2]
      have := sk_p n (a + 1) (by omega) (by omega)
      exact ⟨by omega, this.2⟩
    · rw [sk_stop c]
      exact ⟨by omega, c⟩
theorem sk_b (ha : a ≤ N) : a ≤ sk t N a ∧ sk t N a ≤ N := (sk_p _ a rfl ha).1
theorem sk_i (ha : a ≤ N) : sk t N (sk t N a) = sk t N a := sk_stop (sk_p _ a rfl ha).2
theorem getD_mem {w : List Int} {i : Nat} (h : i < w.length) : w.getD i 0 ∈ w := by
  rw [List.getD_eq_getElem?_getD, List.getElem?_eq_getElem h]
  exact List.getElem_mem h
/-- at most one word stands there -/
theorem Wd_len {w w' : List Int} (hw : ∀ x ∈ w, ltr x) (h : WdP t N b w) (h' : WdP t N b w') : w'.length ≤ w.length → w.length = w'.length := fun le => by
  by_cases c : w'.length < w.length
  · exfalso
    have e := h.2.1 (w'.length : Int) (by omega) (by omega)
    refine h'.2.2 (by have := h.1; omega) ?_
    rw [e, Int.toNat_natCast]
    exact hw _ (getD_mem c)
  · omega
theorem Wd_uniq {w w' : List Int} (hw : ∀ x ∈ w, ltr x) (hw' : ∀ x ∈ w', ltr x) (h : WdP t N b w) (h' : WdP t N b w') : w = w' := by
  have el : w.length = w'.length := by
    by_cases c : w'.length ≤ w.length
    · exact Wd_len hw h h' c
    · exact (Wd_len hw' h' h (by omega)).symm
  refine List.ext_getElem el (fun i h1 h2 => ?_)
  have e1 := h.2.1 (i : Int) (by omega) (by omega)
  have e2 := h'.2.1 (i : Int) (by omega) (by omega)
  rw [Int.toNat_natCast, List.getD_eq_getElem?_getD, List.getElem?_eq_getElem h1] at e1
  rw [Int.toNat_natCast, List.getD_eq_getElem?_getD, List.getElem?_eq_getElem h2] at e2
  exact e1.symm.trans e2
theorem nd_b (t : Int → Int) (N b : Int) : 0 ≤ nd t N b ∧ nd t N b ≤ 3 := by
  unfold nd
  by_cases c1 : Dg t N b
  · rw [cif_t c1]
    by_cases c2 : Dg t N (b + 1)
    · rw [cif_t c2]
      by_cases c3 : Dg t N (b + 2)
      · rw [cif_t c3]; omega
      · rw [cif_f c3]; omega
    · rw [cif_f c2]; omega
  · rw [cif_f c1]; omega
/-- one digit more, or no more -/
theorem nd_next {y : Int} (y0 : 0 ≤ y) (y2 : y ≤ 2) (h : y ≤ nd t N b) : (Dg t N (b + y) → y + 1 ≤ nd t N b) ∧ (¬ Dg t N (b + y) → nd t N b = y) := by
  unfold nd at *
  by_cases c1 : Dg t N b
  · rw [cif_t c1] at h ⊢
    by_cases c2 : Dg t N (b + 1)
    · rw [cif_t c2] at h ⊢
      by_cases c3 : Dg t N (b + 2)
      · rw [cif_t c3] at h ⊢
        refine ⟨fun _ => by omega, fun n => ?_⟩
        exfalso
        have : y = 0 ∨ y = 1 ∨ y = 2 := by omega
        rcases this with e | e | e <;> subst e
        · rw [show b + 0 = b by omega] at n; exact n c1
        · exact n c2
        · exact n c3
      · rw [cif_f c3] at h ⊢
        refine ⟨fun z => ?_, fun n => ?_⟩
        · by_cases e : y = 2
          · subst e; exact absurd z c3
          · omega
        · have : y = 0 ∨ y = 1 ∨ y = 2 := by omega
          rcases this with e | e | e <;> subst e
          · rw [show b + 0 = b by omega] at n; exact absurd c1 n
          · exact absurd c2 n
          · rfl
    · rw [cif_f c2] at h ⊢
      refine ⟨fun z => ?_, fun n => ?_⟩
      · by_cases e : y = 1
        · subst e; exact absurd z c2
        · omega
      · have : y = 0 ∨ y = 1 := by omega
        rcases this with e | e <;> subst e
        · rw [show b + 0 = b by omega] at n; exact absurd c1 n
        · rfl
  · rw [cif_f c1] at h ⊢
    have e : y = 0 := by omega
    subst e
    rw [show b + 0 = b by omega]
    exact ⟨fun z => absurd z c1, fun _ => rfl⟩
theorem nd_N {y : Int} (h : nd t N b = y) (y1 : 1 ≤ y) : b + y ≤ N := by
  unfold nd at h
  by_cases c1 : Dg t N b
  · rw [cif_t c1] at h
    have d1 := c1.1
    by_cases c2 : Dg t N (b + 1)
    · rw [cif_t c2] at h
      have d2 := c2.1
      by_cases c3 : Dg t N (b + 2)
      · rw [cif_t c3] at h
        have d3 := c3.1
        omega
      · rw [cif_f c3] at h; omega
    · rw [cif_f c2] at h; omega
  · rw [cif_f c1] at h; omega
theorem vl_s {y : Int} (y0 : 0 ≤ y) (y2 : y ≤ 2) : vl t b (y + 1) = 10 * vl t b y + (t (b + y) - 48) := by
  have : y = 0 ∨ y = 1 ∨ y = 2 := by omega
  rcases this with e | e | e <;> subst e
  · show t b - 48 = 10 * 0 + (t (b + 0) - 48)
    rw [show b + 0 = b by omega]; omega
  · rfl
  · rfl
theorem vl_b {y : Int} (y0 : 0 ≤ y) (hy : y ≤ nd t N b) : 0 ≤ vl t b y ∧ vl t b y ≤ 999 ∧ (y ≤ 2 → vl t b y ≤ 99) ∧ (y ≤ 1 → vl t b y ≤ 9) ∧ (y ≤ 0 → vl t b y = 0) := by
  have nb := nd_b t N b
  have s0 : vl t b 0 = 0 := rfl
  have d : ∀ z : Int, 0 ≤ z → z ≤ 2 → z + 1 ≤ nd t N b → 0 ≤ t (b + z) - 48 ∧ t (b + z) - 48 ≤ 9 := fun z z0 z2 hz => by
    by_cases c : Dg t N (b + z)
    · have := c.2; omega
    · have := (nd_next (t := t) (N := N) (b := b) z0 z2 (by omega)).2 c
      omega
  have : y = 0 ∨ y = 1 ∨ y = 2 ∨ y = 3 := by omega
  rcases this with e | e | e | e <;> subst e
  · omega
  · have a := vl_s (t := t) (b := b) (y := 0) (by decide) (by decide)
    have d0 := d 0 (by decide) (by decide) (by omega)
    rw [show (0 : Int) + 1 = 1 by decide] at a
    omega
  · have a := vl_s (t := t) (b := b) (y := 0) (by decide) (by decide)
    have a1 := vl_s (t := t) (b := b) (y := 1) (by decide) (by decide)
    have d0 := d 0 (by decide) (by decide) (by omega)
    have d1 := d 1 (by decide) (by decide) (by omega)
    rw [show (0 : Int) + 1 = 1 by decide] at a
    rw [show (1 : Int) + 1 = 2 by decide] at a1
    omega
  · have a := vl_s (t := t) (b := b) (y := 0) (by decide) (by decide)
    have a1 := vl_s (t := t) (b := b) (y := 1) (by decide) (by decide)
    have a2 := vl_s (t := t) (b := b) (y := 2) (by decide) (by decide)
    have d0 := d 0 (by decide) (by decide) (by omega)
    have d1 := d 1 (by decide) (by decide) (by omega)
    have d2 := d 2 (by decide) (by decide) (by omega)
    rw [show (0 : Int) + 1 = 1 by decide] at a
    rw [show (1 : Int) + 1 = 2 by decide] at a1
    rw [show (2 : Int) + 1 = 3 by decide] at a2
    omega
end TU
