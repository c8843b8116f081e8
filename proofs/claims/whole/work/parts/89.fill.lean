/-! ===== grading: the class's table ===== -/
def pk (v : Int → Int) (lo : Int) : Nat → Int
  | 0 => 0
  | n + 1 => zOr (pk v lo n) (zShl (v (lo + n) + 3) (3 * (lo + n + 3)))
theorem pk_s (v : Int → Int) (lo : Int) {y : Int} (h : lo ≤ y) : pk v lo (y + 1 - lo).toNat = zOr (pk v lo (y - lo).toNat) (zShl (v y + 3) (3 * (y + 3))) := by
  rw [show (y + 1 - lo).toNat = (y - lo).toNat + 1 by omega]
  show zOr _ (zShl (v (lo + ((y - lo).toNat : Int)) + 3) (3 * (lo + ((y - lo).toNat : Int) + 3))) = _
  rw [show lo + ((y - lo).toNat : Int) = y by omega]
theorem Am_uniq {f : Int → Int} {lo hi v w : Int} (h1 : Am f lo hi v) (h2 : Am f lo hi w) : v = w := by
  rcases h1 with ⟨a, b⟩ | ⟨a, b, c, d, e⟩
  · rcases h2 with ⟨a', b'⟩ | ⟨a', b', c', d', e'⟩
    · omega
    · have := b w a' b'
      omega
  · rcases h2 with ⟨a', b'⟩ | ⟨a', b', c', d', e'⟩
    · have := b' v a b
      omega
    · by_cases x : v < w
      · have := e' v a x
        have := d w a' b'
        omega
      · by_cases y : w < v
        · have := e w a' y
          have := d' v a b
          omega
        · omega
/-- the offset that the class takes next -/
noncomputable def chv (L : Int → Int) (r rule k m o : Int) : Int := cif (k + 1 < L (175 + 81 * r)) (Classical.epsilon (fun v => Am (fun b => Gn L r rule (L (175 + 81 * r) - 1 - k - 1) k o b m) (-L 9) (L 9) v)) 0
theorem chv_eq {L : Int → Int} {r rule k m o v : Int} (k1 : k + 1 < L (175 + 81 * r)) (h : Am (fun b => Gn L r rule (L (175 + 81 * r) - 1 - k - 1) k o b m) (-L 9) (L 9) v) : v = chv L r rule k m o := by
  unfold chv
  rw [cif_t k1]
  exact Am_uniq h (Classical.epsilon_spec ⟨v, h⟩)
def C36 (L : Int → Int) (r rule k : Int) (s : zS) : Prop := ∀ b m, -L 9 ≤ b → b ≤ L 9 → -bdF L r k ≤ m → m ≤ bdF L r k → s 36 (cl36 k b m) = Cv L r rule k b m
def W37 (L : Int → Int) (r rule k : Int) (s : zS) : Prop := ∀ k' m, k ≤ k' → k' < L (175 + 81 * r) → -bdF L r k' ≤ m → m ≤ bdF L r k' → s 37 (k' * 151 + m + 75) = pk (chv L r rule k' m) (-L 9) (2 * L 9 + 1).toNat
def FQ (L : Int → Int) (r rule k : Int) (s0 : zS) (m o : Int) (s : zS) : Prop := zQ [36, 37] s0 s ∧ (k + 1 < L (175 + 81 * r) → C36 L r rule (k + 1) s) ∧ (∀ b m', -L 9 ≤ b → b ≤ L 9 → -bdF L r k ≤ m' → m' ≤ bdF L r k → (m' < m ∨ (m' = m ∧ b < o)) → s 36 (cl36 k b m') = Cv L r rule k b m') ∧ W37 L r rule (k + 1) s ∧ ∀ m', -bdF L r k ≤ m' → m' < m → s 37 (k * 151 + m' + 75) = pk (chv L r rule k m') (-L 9) (2 * L 9 + 1).toNat
section TI
variable {L : Int → Int} {r rule k m o : Int} {s0 s s' : zS}
theorem FQ_w (hL : GW L) (hN : L (175 + 81 * r) ≤ 40) (k0 : 0 ≤ k) (k1 : k < L (175 + 81 * r)) (ho : -L 9 ≤ o ∧ o ≤ L 9) (hm : -bdF L r k ≤ m ∧ m ≤ bdF L r k) (h : FQ L r rule k s0 m o s) (es : s' = zU s 36 (cl36 k o m) (Cv L r rule k o m)) : FQ L r rule k s0 m (o + 1) s' := by
  obtain ⟨a, b, c, d, e⟩ := h
  have h9 := hL.2.1
  have bb := bd_b hL (r := r) (k := k) hN k0 k1
  refine ⟨by rw [es]; exact zQ_t a (zQ_U (by decide)), fun q x y x0 x1 y0 y1 => ?_, fun x y x0 x1 y0 y1 hh => ?_, fun k' y q0 q1 y0 y1 => ?_, fun y y0 y1 => ?_⟩
  · have bb' := bd_b hL (r := r) (k := k + 1) hN (by omega) q
    rw [es, zU_if, if_neg]
    · exact b q x y x0 x1 y0 y1
    · unfold cl36
      omega
  · rw [es, zU_if]
    by_cases i : cl36 k x y = cl36 k o m
    · rw [if_pos i]
      have : x = o ∧ y = m := by
        unfold cl36 at i
        omega
      rw [this.1, this.2]
    · rw [if_neg i]
      refine c x y x0 x1 y0 y1 ?_
      rcases hh with z | ⟨z1, z2⟩
      · exact Or.inl z
      · by_cases q : x = o
        · exact absurd (by rw [q, z1]) i
        · exact Or.inr ⟨z1, by omega⟩
  · rw [es, zU_row (by decide)]
    exact d k' y q0 q1 y0 y1
  · rw [es, zU_row (by decide)]
    exact e y y0 y1
theorem FQ_m (hL : GW L) (hN : L (175 + 81 * r) ≤ 40) (k0 : 0 ≤ k) (k1 : k < L (175 + 81 * r)) (hm : -bdF L r k ≤ m ∧ m ≤ bdF L r k) (ho : L 9 < o) (h : FQ L r rule k s0 m o s) (es : s' = zU s 37 (k * 151 + m + 75) (pk (chv L r rule k m) (-L 9) (2 * L 9 + 1).toNat)) : FQ L r rule k s0 (m + 1) (-L 9) s' := by
  obtain ⟨a, b, c, d, e⟩ := h
  have h9 := hL.2.1
  have bb := bd_b hL (r := r) (k := k) hN k0 k1
  refine ⟨by rw [es]; exact zQ_t a (zQ_U (by decide)), fun q x y x0 x1 y0 y1 => ?_, fun x y x0 x1 y0 y1 hh => ?_, fun k' y q0 q1 y0 y1 => ?_, fun y y0 y1 => ?_⟩
  · rw [es, zU_row (by decide)]
    exact b q x y x0 x1 y0 y1
  · rw [es, zU_row (by decide)]
    refine c x y x0 x1 y0 y1 ?_
    by_cases q : y = m
    · exact Or.inr ⟨q, by omega⟩
    · exact Or.inl (by omega)
  · have bb' := bd_b hL (r := r) (k := k') hN (by omega) q1
    rw [es, zU_if, if_neg (by omega)]
    exact d k' y q0 q1 y0 y1
  · rw [es, zU_if]
    by_cases q : y = m
    · rw [if_pos (by rw [q]), q]
    · rw [if_neg (by omega)]
      exact e y y0 (by omega)
theorem FQ_o (h : FQ L r rule k s0 m (-L 9) s) {o' : Int} (e : o' = -L 9) : FQ L r rule k s0 m o' s := by
  rw [e]
  exact h
end TI
