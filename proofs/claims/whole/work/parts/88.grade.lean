/-! ===== grading: the class's best next offset ===== -/
def slp (L : Int → Int) (r k : Int) : Int := L (13 + L (176 + 81 * r + (k + 1))) - L (13 + L (176 + 81 * r + k))
def rch (L : Int → Int) (r rule k : Int) : Int := Int.tdiv (rule * lng (rhd L r k)) 100
def cl36 (k o s : Int) : Int := (k % 2 * 7 + o + 3) * 151 + s + 75
section TH
variable {K : Int → zS → Prop} {σ : zS} {L : Int → Int} {r rule k o m : Int}
theorem rch_b (hrl : 0 ≤ rule ∧ rule ≤ 99) : 0 ≤ rch L r rule k ∧ rch L r rule k ≤ 13 ∧ (0 ≤ rule * lng (rhd L r k) ∧ rule * lng (rhd L r k) ≤ 1386) ∧ 100 * rch L r rule k ≤ rule * lng (rhd L r k) ∧ rule * lng (rhd L r k) < 100 * rch L r rule k + 100 := by
  have hz : 0 ≤ rule * lng (rhd L r k) ∧ rule * lng (rhd L r k) ≤ 1386 := by
    rcases lng_or (rhd L r k) with e | e <;> rw [e] <;> omega
  unfold rch
  rw [Int.tdiv_eq_ediv_of_nonneg hz.1]
  omega
theorem Rl_i (hrl : 0 ≤ rule ∧ rule ≤ 99) (b : Int) : Rl L r rule k o b ↔ (o - slp L r k - rch L r rule k ≤ b ∧ b ≤ o - slp L r k + rch L r rule k) := by
  obtain ⟨h1, h2, h3, h4, h5⟩ := rch_b (L := L) (r := r) (k := k) hrl
  unfold Rl slp
  split <;> omega
theorem slp_b (hL : GW L) (hw : RW L r) (k0 : 0 ≤ k) (k1 : k + 1 < L (175 + 81 * r)) : -99 ≤ slp L r k ∧ slp L r k ≤ 99 := by
  have hd := hw.hd k0 k1
  have ha' := hL.2.2.1 _ hd.2.2.1.1 (hd.2.2.1.b hL).2
  have hb' := hL.2.2.1 _ hd.2.2.2.1 (hd.2.2.2.b hL).2
  unfold slp
  omega
theorem t_G_cell (hk : 0 ≤ k ∧ k ≤ 40) (ho : -1000 ≤ o ∧ o ≤ 1000) (hs : -1000 ≤ m ∧ m ≤ 1000) (h : K (cl36 k o m) σ) : q_G_cell k o m K σ := by
  unfold q_G_cell
  unfold cl36 at h
  rw [zAnd_1]
  exact ⟨zRi (by omega) (by omega), h⟩
theorem t_G_bound (hc : CC L σ) (hL : GW L) (h4 : σ 35 4 = L 9) (hr : 0 ≤ r ∧ r < 4) (hw : RW L r) (nz : L (175 + 81 * r) ≠ 0) (k0 : 0 ≤ k) (k1 : k < L (175 + 81 * r)) (h : K (bdF L r k) σ) : q_G_bound r k K σ := by
  have hRW := hw.resolve_left nz
  have h9 := hL.2.1
  unfold q_G_bound
  intro x2 e2
  refine t_L_value (v := 12) hc (by decide) rfl (t_L_roadSize hc hr (fun x8 e8 => ?_))
  rw [h4] at e2 e8
  have hb : (0 ≤ x2 ∧ x2 ≤ 120) ∧ (0 ≤ x8 ∧ x8 ≤ 150) := by
    have : L 9 = 0 ∨ L 9 = 1 ∨ L 9 = 2 ∨ L 9 = 3 := by omega
    rcases this with e | e | e | e <;> rw [e] at e2 e8 <;> omega
  refine ⟨zRi (by omega) (by omega), zRi (by omega) (by omega), ?_⟩
  rw [e2, e8]
  exact h
theorem t_G_look {K : zS → Prop} (hc : CC L σ) (hL : GW L) (h4 : σ 35 4 = L 9) (hr : 0 ≤ r ∧ r < 4) (hw : RW L r) (nz : L (175 + 81 * r) ≠ 0) (hrl : 0 ≤ rule ∧ rule ≤ 99) (k0 : 0 ≤ k) (k1 : k + 1 < L (175 + 81 * r)) (h : ∀ τ, zQ [35] σ τ → τ 35 4 = L 9 → τ 35 5 = slp L r k → τ 35 6 = rch L r rule k → τ 35 7 = bdF L r (k + 1) → K τ) : q_G_look r rule k K σ := by
  have hRW := hw.resolve_left nz
  have hd := hw.hd k0 k1
  have sb := slp_b hL hw k0 k1
  have rb := rch_b (L := L) (r := r) (k := k) hrl
  unfold slp at sb
  unfold q_G_look
  refine ⟨zRi (by omega) (by omega), t_L_roadPlace hc hr ⟨by omega, by omega⟩ (t_L_height hc hL hd.2.2.2 (t_L_roadPlace hc hr ⟨k0, by omega⟩ (t_L_height hc hL hd.2.2.1 ⟨zRi (by omega) (by omega), fun s11 e11 => ?_⟩)))⟩
  have hc11 : CC L s11 := by rw [e11]; exact CC_U hc (by decide)
  refine t_L_roadHeading hc11 hL hr hw k0 k1 (by omega) (t_R_longOf ⟨zRi (by omega) (by omega), ?_⟩)
  have er : Int.tdiv (rule * lng (rhd L r k)) 100 = rch L r rule k := rfl
  rw [er]
  refine ⟨zRi (by omega) (by omega), fun s18 e18 => ?_⟩
  have hc18 : CC L s18 := by rw [e18]; exact CC_U hc11 (by decide)
  have g4 : s18 35 4 = L 9 := by rw [e18, zU_k (by decide), e11, zU_k (by decide), h4]
  refine t_G_bound hc18 hL g4 hr hw nz (by omega) k1 (fun s21 e21 => h s21 ?_ ?_ ?_ ?_ ?_)
  · rw [e21, e18, e11]
    exact zQ_t (zQ_t (zQ_U (by decide)) (zQ_U (by decide))) (zQ_U (by decide))
  · rw [e21, zU_k (by decide), g4]
  · rw [e21, zU_k (by decide), e18, zU_k (by decide), e11, zU_s]
    rfl
  · rw [e21, zU_k (by decide), e18, zU_s]
  · rw [e21, zU_s]
theorem bd_out (hL : GW L) (hN : L (175 + 81 * r) ≤ 40) (k0 : 0 ≤ k) (k1 : k + 1 < L (175 + 81 * r)) (hm : -bdF L r k ≤ m ∧ m ≤ bdF L r k) {b : Int} (hb : -L 9 ≤ b ∧ b ≤ L 9) (h : m + b < -bdF L r (k + 1) ∨ bdF L r (k + 1) < m + b) : m + b < -(L 12 + L 9 * ((L (175 + 81 * r) - 1 - k - 1).toNat : Int)) ∨ L 12 + L 9 * ((L (175 + 81 * r) - 1 - k - 1).toNat : Int) < m + b := by
  have h9 := hL.2.1
  have b1 := bd_or hL r k
  have b2 := bd_or hL r (k + 1)
  have : L 9 = 0 ∨ L 9 = 1 ∨ L 9 = 2 ∨ L 9 = 3 := by omega
  rcases this with e | e | e | e <;> rw [e] <;> omega
theorem bd_b (hL : GW L) (hN : L (175 + 81 * r) ≤ 40) (k0 : 0 ≤ k) (k1 : k < L (175 + 81 * r)) : 0 ≤ bdF L r k ∧ bdF L r k ≤ 75 ∧ (k + 1 = L (175 + 81 * r) → bdF L r k ≤ L 12) ∧ (k = 0 → L 9 ≤ L 12 + L 9 * (L (175 + 81 * r) - 1) → bdF L r k = L 9) := by
  have h9 := hL.2.1
  have b1 := bd_or hL r k
  have : L 9 = 0 ∨ L 9 = 1 ∨ L 9 = 2 ∨ L 9 = 3 := by omega
  rcases this with e | e | e | e <;> rw [e] <;> omega
theorem Gn_Cv (b : Int) (rl : Rl L r rule k o b) : Gn L r rule (L (175 + 81 * r) - 1 - k - 1) k o b m = Cv L r rule (k + 1) b (m + b) := by
  unfold Gn Cv
  rw [show (L (175 + 81 * r) - 1 - (k + 1)).toNat = (L (175 + 81 * r) - 1 - k - 1).toNat by omega]
  by_cases c : Gd L r rule (L (175 + 81 * r) - 1 - k - 1).toNat (k + 1) b (m + b) < 1000000000
  · rw [cif_t ⟨rl, c⟩, cif_t c, Int.add_comm]
  · rw [cif_f (fun z => c z.2), cif_f c]
theorem Cv_b (hL : GW L) (hN : L (175 + 81 * r) ≤ 40) (k0 : 0 ≤ k) (ho : -3 ≤ o ∧ o ≤ 3) : (0 ≤ Cv L r rule k o m ∧ Cv L r rule k o m ≤ 1107) ∨ Cv L r rule k o m = 1000000000 := by
  have gb := Gd_b (r := r) (rule := rule) hL (L (175 + 81 * r) - 1 - k).toNat k o m
  have eb := eoV_b hL ho
  unfold Cv
  by_cases c : Gd L r rule (L (175 + 81 * r) - 1 - k).toNat k o m < 1000000000
  · rw [cif_t c]
    omega
  · rw [cif_f c]
    omega
/-- the earth of a place by the offset chosen next -/
theorem Cv_s (hL : GW L) (k1 : k + 1 < L (175 + 81 * r)) {v : Int} (h : Am (fun b => Gn L r rule (L (175 + 81 * r) - 1 - k - 1) k o b m) (-L 9) (L 9) v) : (v = 4 ∧ Cv L r rule k o m = 1000000000) ∨ (v ≠ 4 ∧ -L 9 ≤ v ∧ v ≤ L 9 ∧ Rl L r rule k o v ∧ Cv L r rule (k + 1) v (m + v) < 1000000000 ∧ Cv L r rule k o m = eoV L o + Cv L r rule (k + 1) v (m + v)) := by
  have h9 := hL.2.1
  have a := Am_gm (by omega) h
  have s := Gd_s (L := L) (r := r) (rule := rule) (n := L (175 + 81 * r) - 1 - k) (by omega) k o m
  rcases a with ⟨e, z⟩ | ⟨e, z⟩
  · refine Or.inl ⟨e, ?_⟩
    rw [z] at s
    unfold Cv
    rw [s]
    exact cif_f (by decide)
  · obtain ⟨q0, q1, q2, q3, q4⟩ := h.resolve_left (fun w => e w.1)
    have q2' : Gn L r rule (L (175 + 81 * r) - 1 - k - 1) k o v m < 1000000000 := q2
    have rl : Rl L r rule k o v := by
      refine Classical.byContradiction (fun w => ?_)
      have : Gn L r rule (L (175 + 81 * r) - 1 - k - 1) k o v m = 1000000000 := cif_f (fun z => w z.1)
      omega
    have g := Gn_Cv (m := m) v rl
    refine Or.inr ⟨e, q0, q1, rl, by omega, ?_⟩
    have sz : Gd L r rule (L (175 + 81 * r) - 1 - k).toNat k o m = Cv L r rule (k + 1) v (m + v) := by
      rw [s, z]
      exact g
    show cif _ _ _ = _
    rw [sz, cif_t (by omega)]
theorem t_G_bestNext (hL : GW L) (hw : RW L r) (nz : L (175 + 81 * r) ≠ 0) (hrl : 0 ≤ rule ∧ rule ≤ 99) (k0 : 0 ≤ k) (k1 : k + 1 < L (175 + 81 * r)) (ho : -L 9 ≤ o ∧ o ≤ L 9) (hm : -bdF L r k ≤ m ∧ m ≤ bdF L r k) (g4 : σ 35 4 = L 9) (g5 : σ 35 5 = slp L r k) (g6 : σ 35 6 = rch L r rule k) (g7 : σ 35 7 = bdF L r (k + 1)) (h36 : ∀ b s, -L 9 ≤ b → b ≤ L 9 → -bdF L r (k + 1) ≤ s → s ≤ bdF L r (k + 1) → σ 36 (cl36 (k + 1) b s) = Cv L r rule (k + 1) b s) (h : ∀ v, Am (fun b => Gn L r rule (L (175 + 81 * r) - 1 - k - 1) k o b m) (-L 9) (L 9) v → K v σ) : q_G_bestNext k o m K σ := by
  have hRW := hw.resolve_left nz
  have h9 := hL.2.1
  have bb := bd_b hL (r := r) (k := k) (by omega) k0 (by omega)
  have bb' := bd_b hL (r := r) (k := k + 1) (by omega) (by omega) (by omega)
  have sb := slp_b hL hw k0 k1
  have rb := rch_b (L := L) (r := r) (k := k) hrl
  unfold q_G_bestNext
  rw [g4, g5, g6, g7]
  refine ⟨zRi (by omega) (by omega), zRi (by omega) (by omega), zRi (by omega) (by omega), fun lo elo => ⟨zRi (by omega) (by omega), zRi (by omega) (by omega), fun hi ehi => ⟨zRi (by omega) (by omega), zRi (by omega) (by omega), t_G_cell (by omega) (by omega) (by omega) ?_⟩⟩⟩
  have inn : ∀ b, -L 9 ≤ b → b ≤ L 9 → (lo ≤ b ∧ b ≤ hi ↔ Rl L r rule k o b ∧ (-bdF L r (k + 1) ≤ m + b ∧ m + b ≤ bdF L r (k + 1))) := fun b b0 b1 => by
    rw [Rl_i hrl]
    omega
  have out : ∀ b, -L 9 ≤ b → b ≤ L 9 → ¬ (lo ≤ b ∧ b ≤ hi) → Gn L r rule (L (175 + 81 * r) - 1 - k - 1) k o b m = 1000000000 := fun b b0 b1 nb => by
    refine cif_f (fun z => ?_)
    have w : ¬ (-bdF L r (k + 1) ≤ m + b ∧ m + b ≤ bdF L r (k + 1)) := fun w => nb ((inn b b0 b1).mpr ⟨z.1, w⟩)
    have := Gd_inf (r := r) (rule := rule) hL (L (175 + 81 * r) - 1 - k - 1).toNat (k + 1) b (m + b) (bd_out hL (by omega) k0 k1 hm ⟨b0, b1⟩ (by omega))
    have := z.2
    omega
  have ins : ∀ b, lo ≤ b → b ≤ hi → Gn L r rule (L (175 + 81 * r) - 1 - k - 1) k o b m = Cv L r rule (k + 1) b (m + b) := fun b b0 b1 => Gn_Cv b ((inn b (by omega) (by omega)).mp ⟨b0, b1⟩).1
  refine ⟨fun v best idx b => lo ≤ b ∧ (b ≤ hi + 1 ∨ b = lo) ∧ idx = cl36 (k + 1) b (m + b) ∧ ((v = 4 ∧ best = 1000000000 ∧ ∀ x, lo ≤ x → x < b → 1000000000 ≤ Cv L r rule (k + 1) x (m + x)) ∨ (lo ≤ v ∧ v < b ∧ v ≤ hi ∧ best = Cv L r rule (k + 1) v (m + v) ∧ best < 1000000000 ∧ (∀ x, lo ≤ x → x < b → best ≤ Cv L r rule (k + 1) x (m + x)) ∧ ∀ x, lo ≤ x → x < v → best < Cv L r rule (k + 1) x (m + x))), fun _ _ _ b => (hi + 1 - b).toNat, ⟨Int.le_refl _, Or.inr rfl, rfl, Or.inl ⟨rfl, rfl, fun x x0 x1 => by omega⟩⟩, ?_⟩
  rintro v best idx b ⟨b0, b1, ei, hI⟩ - - - -
  refine ⟨fun c => h v ?_, fun c => ?_⟩
  · rcases hI with ⟨z1, z2, z3⟩ | ⟨z1, z2, z3, z4, z5, z6, z7⟩
    · refine Or.inl ⟨z1, fun x x0 x1 => ?_⟩
      show 1000000000 ≤ Gn L r rule (L (175 + 81 * r) - 1 - k - 1) k o x m
      by_cases i : lo ≤ x ∧ x ≤ hi
      · rw [ins x i.1 i.2]
        exact z3 x i.1 (by omega)
      · rw [out x x0 x1 i]
        exact Int.le_refl _
    · have ev := ins v z1 z3
      refine Or.inr ⟨by omega, by omega, by dsimp only; rw [ev]; omega, fun x x0 x1 => ?_, fun x x0 x1 => ?_⟩
      · show Gn L r rule (L (175 + 81 * r) - 1 - k - 1) k o v m ≤ Gn L r rule (L (175 + 81 * r) - 1 - k - 1) k o x m
        rw [ev]
        by_cases i : lo ≤ x ∧ x ≤ hi
        · rw [ins x i.1 i.2]
          have := z6 x i.1 (by omega)
          omega
        · rw [out x x0 x1 i]
          omega
      · show Gn L r rule (L (175 + 81 * r) - 1 - k - 1) k o v m < Gn L r rule (L (175 + 81 * r) - 1 - k - 1) k o x m
        rw [ev]
        by_cases i : lo ≤ x ∧ x ≤ hi
        · rw [ins x i.1 i.2]
          have := z7 x i.1 (by omega)
          omega
        · rw [out x x0 (by omega) i]
          omega
  · have ib := (inn b (by omega) (by omega)).mp ⟨b0, c⟩
    have e36 : σ 36 idx = Cv L r rule (k + 1) b (m + b) := by
      rw [ei]
      exact h36 b (m + b) (by omega) (by omega) ib.2.1 ib.2.2
    have en : idx + 152 = cl36 (k + 1) (b + 1) (m + (b + 1)) := by
      rw [ei]
      unfold cl36
      omega
    have bi : 0 ≤ idx ∧ idx < 2114 := by
      rw [ei]
      unfold cl36
      omega
    rw [e36]
    refine ⟨bi, fun ge => ⟨⟨by omega, Or.inl (by omega), en, ?_⟩, zRi (by omega) (by omega), zRi (by omega) (by omega), by dsimp only; omega⟩, fun lt x37 e37 => ⟨⟨by omega, Or.inl (by omega), en, Or.inr ⟨b0, by omega, c, e37, ?_, fun x x0 x1 => ?_, fun x x0 x1 => ?_⟩⟩, zRi (by omega) (by omega), zRi (by omega) (by omega), by dsimp only; omega⟩⟩
    · rcases hI with ⟨z1, z2, z3⟩ | ⟨z1, z2, z3, z4, z5, z6, z7⟩
      · refine Or.inl ⟨z1, z2, fun x x0 x1 => ?_⟩
        by_cases q : x = b
        · rw [q]; omega
        · exact z3 x x0 (by omega)
      · refine Or.inr ⟨z1, by omega, z3, z4, z5, fun x x0 x1 => ?_, z7⟩
        by_cases q : x = b
        · rw [q]; exact ge
        · exact z6 x x0 (by omega)
    · rcases hI with ⟨z1, z2, z3⟩ | ⟨z1, z2, z3, z4, z5, z6, z7⟩ <;> omega
    · by_cases q : x = b
      · rw [q]; omega
      · rcases hI with ⟨z1, z2, z3⟩ | ⟨z1, z2, z3, z4, z5, z6, z7⟩
        · have := z3 x x0 (by omega)
          omega
        · have := z6 x x0 (by omega)
          omega
    · rcases hI with ⟨z1, z2, z3⟩ | ⟨z1, z2, z3, z4, z5, z6, z7⟩
      · have := z3 x x0 (by omega)
        omega
      · have := z6 x x0 (by omega)
        omega
end TH
